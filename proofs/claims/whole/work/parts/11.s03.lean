set_option maxRecDepth 100000 in
set_option maxHeartbeats 4000000 in
theorem s_X_drawnStray_L13 {d : Nat} (hd : 2 ≤ d + 1) {Q : Int32 → Hp → Prop} {QQ : Option AV → Hp → Prop} (hQ : ∀ r9 h9, Q r9 h9 → QQ (some (ai r9)) h9) {v0 : Nat} {v2 : Int32} : ∀ (n : Nat) (v1 : Int32) (v3 : Int32) (v4 : Int32) (h : Hp), w_X_drawnStray_L13 Q  v0 v2 n v1 v3 v4 h → aW none m_X_drawnStray (d + 1) 13 [(0, ar v0), (1, ai v1), (2, ai v2), (3, ai v3), (4, ai v4)] [] h 0 0 QQ := by
  intro n
  induction n with
  | zero => intro v1 v3 v4 h hw; exact hw.elim
  | succ n ih =>
    intro v1 v3 v4 h hw
    unfold w_X_drawnStray_L13 at hw
    refine r_iload (j := 4) d_X_drawnStray_13 rfl ?_
    refine r_iload_n (j := 2) d_X_drawnStray_15 rfl ?_
    refine r_icmp_gt d_X_drawnStray_16 (fun w9 => ?_) (fun w9 => ?_)
    · replace hw := hw.1 w9
      refine r_iload_n (j := 3) d_X_drawnStray_80 rfl ?_
      exact r_ireturn d_X_drawnStray_81.1 rfl (hQ _ _ hw)
    · replace hw := hw.2 w9
      refine r_aload_n (j := 0) d_X_drawnStray_19 rfl ?_
      obtain ⟨q3, hw⟩ := hw
      refine r_getR d_X_drawnStray_20 ok_11 (nle rfl) (nle rfl) rfl lf_X_23 q3 ?_
      obtain ⟨q4, hw⟩ := hw
      refine r_getI d_X_drawnStray_23 ok_1 (nle rfl) (nle rfl) rfl lf_X_129 q4 ?_
      refine r_if_le d_X_drawnStray_26 (fun w9 => ?_) (fun w9 => ?_)
      · replace hw := hw.1 w9
        refine r_iload_n (j := 3) d_X_drawnStray_80 rfl ?_
        exact r_ireturn d_X_drawnStray_81.1 rfl (hQ _ _ hw)
      · replace hw := hw.2 w9
        refine r_iload_n (j := 1) d_X_drawnStray_29 rfl ?_
        refine r_callS (av := [ai v1]) (rest := []) d_X_drawnStray_30 mk_X_draw ll_X_332 st_X_draw rfl rfl (nle rfl) (s_X_draw  hw (fun r6 h5 hw => ?_))
        show aW none m_X_drawnStray (d + 1) 33 [(0, ar v0), (1, ai v1), (2, ai v2), (3, ai v3), (4, ai v4)] [ai r6] h5 0 0 QQ
        refine r_istore_n (ls2 := [(1, ai r6), (0, ar v0), (2, ai v2), (3, ai v3), (4, ai v4)]) d_X_drawnStray_33 (nle rfl) rfl ?_
        refine r_aload_n (j := 1) d_X_drawnStray_34 rfl ?_
        obtain ⟨q7, hw⟩ := hw
        refine r_getR d_X_drawnStray_35 ok_11 (nle rfl) (nle rfl) rfl lf_X_23 q7 ?_
        refine r_aload_n (j := 1) d_X_drawnStray_38 rfl ?_
        refine r_getR d_X_drawnStray_39 ok_11 (nle rfl) (nle rfl) rfl lf_X_103 q7 ?_
        refine r_iload_n (j := 0) d_X_drawnStray_42 rfl ?_
        refine r_aload_n (j := 1) d_X_drawnStray_43 rfl ?_
        refine r_getR d_X_drawnStray_44 ok_11 (nle rfl) (nle rfl) rfl lf_X_23 q7 ?_
        obtain ⟨q8, hw⟩ := hw
        refine r_getI d_X_drawnStray_47 ok_1 (nle rfl) (nle rfl) rfl lf_X_129 q8 ?_
        obtain ⟨q9, hw⟩ := hw
        refine r_irem d_X_drawnStray_50 q9 ?_
        refine r_iconst d_X_drawnStray_51 kc_1 ?_
        refine r_callV (av := [ar (gR h5 v0 14), ai (jrem r6 (gI h5 (gR h5 v0 2) 2)), ai (1 : Int32)]) (rest := []) (ci := 1) d_X_drawnStray_52 mk_Co_addTo ll_X_335 im_Co_addTo se_Co_addTo rfl (nle rfl) rfl rfl (nle rfl) q8 (s_Co_addTo (by omega) hw (fun h10 hw => ?_))
        show aW none m_X_drawnStray (d + 1) 55 [(1, ai r6), (0, ar v0), (2, ai v2), (3, ai v3), (4, ai v4)] [] h10 0 0 QQ
        refine r_iload_n (j := 3) d_X_drawnStray_55 rfl ?_
        refine r_aload_n (j := 1) d_X_drawnStray_56 rfl ?_
        obtain ⟨q11, hw⟩ := hw
        refine r_getR d_X_drawnStray_57 ok_11 (nle rfl) (nle rfl) rfl lf_X_23 q11 ?_
        refine r_aload_n (j := 1) d_X_drawnStray_60 rfl ?_
        refine r_getR d_X_drawnStray_61 ok_11 (nle rfl) (nle rfl) rfl lf_X_103 q11 ?_
        refine r_iload_n (j := 2) d_X_drawnStray_64 rfl ?_
        refine r_iload (j := 4) d_X_drawnStray_65 rfl ?_
        obtain ⟨q14, hw⟩ := hw
        refine r_callV (av := [ar (gR h10 v0 14), ai v2, ai v4]) (rest := [ai v3]) (ci := 1) d_X_drawnStray_67 mk_Co_strayAt ll_X_339 im_Co_strayAt se_Co_strayAt rfl (nle rfl) rfl rfl (nle rfl) q14 (s_Co_strayAt (by omega) hw (fun r13 h12 hw => ?_))
        show aW none m_X_drawnStray (d + 1) 70 [(1, ai r6), (0, ar v0), (2, ai v2), (3, ai v3), (4, ai v4)] [ai r13, ai v3] h12 0 0 QQ
        refine r_callS (av := [ai v3, ai r13]) (rest := []) d_X_drawnStray_70 mk_JM_max ll_X_343 st_JM_max rfl rfl (nle rfl) (s_JM_max  hw (fun r16 h15 hw => ?_))
        show aW none m_X_drawnStray (d + 1) 73 [(1, ai r6), (0, ar v0), (2, ai v2), (3, ai v3), (4, ai v4)] [ai r16] h15 0 0 QQ
        refine r_istore_n (ls2 := [(3, ai r16), (1, ai r6), (0, ar v0), (2, ai v2), (4, ai v4)]) d_X_drawnStray_73 (nle rfl) rfl ?_
        refine r_iinc (j := 4) (ls2 := [(4, ai (v4 + (1 : Int32))), (3, ai r16), (1, ai r6), (0, ar v0), (2, ai v2)]) d_X_drawnStray_74 rfl (congrArg (HAdd.hAdd v4) kc_1) (nle rfl) rfl ?_
        refine r_goto d_X_drawnStray_77 ?_
        refine r_pick (ls2 := [(0, ar v0), (1, ai r6), (2, ai v2), (3, ai r16), (4, ai (v4 + (1 : Int32)))]) [3, 2, 4, 1, 0] rfl ?_
        exact ih _ _ _ _ hw
set_option maxRecDepth 100000 in
set_option maxHeartbeats 4000000 in
theorem s_X_drawnStray {d : Nat} (hd : 2 ≤ d) {v0 : Nat} {v1 : Int32} {v2 : Int32} {h : Hp} {Q : Int32 → Hp → Prop} {QQ : Option AV → Hp → Prop} (hw : w_X_drawnStray v0 v1 v2 h Q) (hQ : ∀ r9 h9, Q r9 h9 → QQ (some (ai r9)) h9) : aCall m_X_drawnStray d [ar v0, ai v1, ai v2] h 0 0 QQ := by
  obtain ⟨d, rfl⟩ : ∃ d9, d = d9 + 1 := ⟨d - 1, by omega⟩
  refine aCall_in pl_X_drawnStray (nle rfl) ?_
  show aW none m_X_drawnStray (d + 1) 0 [(0, ar v0), (1, ai v1), (2, ai v2)] [] h 0 0 QQ
  unfold w_X_drawnStray at hw
  refine r_aload_n (j := 0) d_X_drawnStray_0 rfl ?_
  obtain ⟨q1, hw⟩ := hw
  refine r_getR d_X_drawnStray_1 ok_11 (nle rfl) (nle rfl) rfl lf_X_103 q1 ?_
  refine r_iconst d_X_drawnStray_4 kc_0 ?_
  refine r_callS (av := [ar (gR h v0 14), ai (0 : Int32)]) (rest := []) d_X_drawnStray_5 mk_JA_fill_IIV ll_X_326 st_JA_fill_IIV rfl rfl (nle rfl) (s_JA_fill_IIV  hw (fun h2 hw => ?_))
  show aW none m_X_drawnStray (d + 1) 8 [(0, ar v0), (1, ai v1), (2, ai v2)] [] h2 0 0 QQ
  refine r_iconst d_X_drawnStray_8 kc_0 ?_
  refine r_istore_n (ls2 := [(3, ai (0 : Int32)), (0, ar v0), (1, ai v1), (2, ai v2)]) d_X_drawnStray_9 (nle rfl) rfl ?_
  refine r_iconst d_X_drawnStray_10 kc_1 ?_
  refine r_istore (ls2 := [(4, ai (1 : Int32)), (3, ai (0 : Int32)), (0, ar v0), (1, ai v1), (2, ai v2)]) d_X_drawnStray_11 (nle rfl) rfl ?_
  obtain ⟨n17, hw⟩ := hw
  refine r_pick (ls2 := [(0, ar v0), (1, ai v1), (2, ai v2), (3, ai (0 : Int32)), (4, ai (1 : Int32))]) [2, 3, 4, 1, 0] rfl ?_
  exact s_X_drawnStray_L13 hd hQ  n17 _ _ _ _ hw
set_option maxRecDepth 100000 in
set_option maxHeartbeats 4000000 in
theorem s_X_drawn {d : Nat} (hd : 3 ≤ d) {v0 : Nat} {v1 : Int32} {v2 : Int32} {v3 : Int32} {h : Hp} {Q : Int32 → Hp → Prop} {QQ : Option AV → Hp → Prop} (hw : w_X_drawn v0 v1 v2 v3 h Q) (hQ : ∀ r9 h9, Q r9 h9 → QQ (some (ai r9)) h9) : aCall m_X_drawn d [ar v0, ai v1, ai v2, ai v3] h 0 0 QQ := by
  obtain ⟨d, rfl⟩ : ∃ d9, d = d9 + 1 := ⟨d - 1, by omega⟩
  refine aCall_in pl_X_drawn (nle rfl) ?_
  show aW none m_X_drawn (d + 1) 0 [(0, ar v0), (1, ai v1), (2, ai v2), (3, ai v3)] [] h 0 0 QQ
  unfold w_X_drawn at hw
  refine r_iload_n (j := 1) d_X_drawn_0 rfl ?_
  refine r_if_lt d_X_drawn_1 (fun w9 => ?_) (fun w9 => ?_)
  · replace hw := hw.1 w9
    refine r_ldc d_X_drawn_38 lc_X_145 ?_
    exact r_ireturn d_X_drawn_40.1 rfl (hQ _ _ hw)
  · replace hw := hw.2 w9
    refine r_iload_n (j := 1) d_X_drawn_4 rfl ?_
    refine r_sipush d_X_drawn_5 ks_9999 ?_
    refine r_icmp_gt d_X_drawn_8 (fun w9 => ?_) (fun w9 => ?_)
    · replace hw := hw.1 w9
      refine r_ldc d_X_drawn_38 lc_X_145 ?_
      exact r_ireturn d_X_drawn_40.1 rfl (hQ _ _ hw)
    · replace hw := hw.2 w9
      refine r_iload_n (j := 2) d_X_drawn_11 rfl ?_
      refine r_callS (av := [ai v2]) (rest := []) d_X_drawn_12 mk_X_isLength ll_X_222 st_X_isLength rfl rfl (nle rfl) (s_X_isLength  hw (fun r2 h1 hw => ?_))
      show aW none m_X_drawn (d + 1) 15 [(0, ar v0), (1, ai v1), (2, ai v2), (3, ai v3)] [ai (b2i r2)] h1 0 0 QQ
      refine r_if_eq d_X_drawn_15 (fun w9 => ?_) (fun w9 => ?_)
      · replace hw := hw.1 (b2i_0.mp w9)
        refine r_ldc d_X_drawn_38 lc_X_145 ?_
        exact r_ireturn d_X_drawn_40.1 rfl (hQ _ _ hw)
      · replace hw := hw.2 (fun g9 => w9 (b2i_0.mpr g9))
        refine r_aload_n (j := 0) d_X_drawn_18 rfl ?_
        obtain ⟨q3, hw⟩ := hw
        refine r_getR d_X_drawn_19 ok_11 (nle rfl) (nle rfl) rfl lf_X_23 q3 ?_
        obtain ⟨q4, hw⟩ := hw
        refine r_getI d_X_drawn_22 ok_1 (nle rfl) (nle rfl) rfl lf_X_129 q4 ?_
        refine r_iconst d_X_drawn_25 kc_1 ?_
        refine r_icmp_lt d_X_drawn_26 (fun w9 => ?_) (fun w9 => ?_)
        · replace hw := hw.1 w9
          refine r_ldc d_X_drawn_38 lc_X_145 ?_
          exact r_ireturn d_X_drawn_40.1 rfl (hQ _ _ hw)
        · replace hw := hw.2 w9
          refine r_iload_n (j := 3) d_X_drawn_29 rfl ?_
          refine r_if_lt d_X_drawn_30 (fun w9 => ?_) (fun w9 => ?_)
          · replace hw := hw.1 w9
            refine r_ldc d_X_drawn_38 lc_X_145 ?_
            exact r_ireturn d_X_drawn_40.1 rfl (hQ _ _ hw)
          · replace hw := hw.2 w9
            refine r_iload_n (j := 3) d_X_drawn_33 rfl ?_
            refine r_iconst d_X_drawn_34 kc_2 ?_
            refine r_icmp_le d_X_drawn_35 (fun w9 => ?_) (fun w9 => ?_)
            · replace hw := hw.1 w9
              refine r_iload_n (j := 3) d_X_drawn_41 rfl ?_
              refine r_if_ne d_X_drawn_42 (fun w9 => ?_) (fun w9 => ?_)
              · replace hw := hw.2 w9
                refine r_aload_n (j := 0) d_X_drawn_52 rfl ?_
                refine r_iload_n (j := 1) d_X_drawn_53 rfl ?_
                refine r_iload_n (j := 2) d_X_drawn_54 rfl ?_
                refine r_callV (av := [ai v1, ai v2]) (rest := []) (ci := 11) d_X_drawn_55 mk_X_drawSums ll_X_323 im_X_drawSums se_X_drawSums rfl (nle rfl) rfl rfl (nle rfl) q3 (s_X_drawSums (by omega) hw (fun r6 h5 hw => ?_))
                show aW none m_X_drawn (d + 1) 58 [(0, ar v0), (1, ai v1), (2, ai v2), (3, ai v3)] [ai r6] h5 0 0 QQ
                refine r_istore (ls2 := [(4, ai r6), (0, ar v0), (1, ai v1), (2, ai v2), (3, ai v3)]) d_X_drawn_58 (nle rfl) rfl ?_
                refine r_iload_n (j := 4) d_X_drawn_60 rfl ?_
                refine r_iconst d_X_drawn_61 kc_1 ?_
                refine r_icmp_ne d_X_drawn_62 (fun w9 => ?_) (fun w9 => ?_)
                · replace hw := hw.2 w9
                  refine r_aload_n (j := 1) d_X_drawn_70 rfl ?_
                  obtain ⟨q7, hw⟩ := hw
                  refine r_getR d_X_drawn_71 ok_11 (nle rfl) (nle rfl) rfl lf_X_23 q7 ?_
                  refine r_aload_n (j := 1) d_X_drawn_74 rfl ?_
                  refine r_getR d_X_drawn_75 ok_11 (nle rfl) (nle rfl) rfl lf_X_103 q7 ?_
                  obtain ⟨q10, hw⟩ := hw
                  refine r_callV (av := [ar (gR h5 v0 14)]) (rest := []) (ci := 1) d_X_drawn_78 mk_Co_farFromNeed ll_X_206 im_Co_farFromNeed se_Co_farFromNeed rfl (nle rfl) rfl rfl (nle rfl) q10 (s_Co_farFromNeed (by omega) hw (fun r9 h8 hw => ?_))
                  show aW none m_X_drawn (d + 1) 81 [(4, ai r6), (0, ar v0), (1, ai v1), (2, ai v2), (3, ai v3)] [ai r9] h8 0 0 QQ
                  exact r_ireturn d_X_drawn_81.1 rfl (hQ _ _ hw)
                · replace hw := hw.1 w9
                  refine r_iload (j := 0) d_X_drawn_65 rfl ?_
                  refine r_goto d_X_drawn_67 ?_
                  exact r_ireturn d_X_drawn_81.1 rfl (hQ _ _ hw)
              · replace hw := hw.1 w9
                refine r_aload_n (j := 0) d_X_drawn_45 rfl ?_
                refine r_iload_n (j := 1) d_X_drawn_46 rfl ?_
                refine r_iload_n (j := 2) d_X_drawn_47 rfl ?_
                refine r_callV (av := [ai v1, ai v2]) (rest := []) (ci := 11) d_X_drawn_48 mk_X_drawnStray ll_X_320 im_X_drawnStray se_X_drawnStray rfl (nle rfl) rfl rfl (nle rfl) q3 (s_X_drawnStray (by omega) hw (fun r12 h11 hw => ?_))
                show aW none m_X_drawn (d + 1) 51 [(0, ar v0), (1, ai v1), (2, ai v2), (3, ai v3)] [ai r12] h11 0 0 QQ
                exact r_ireturn d_X_drawn_51.1 rfl (hQ _ _ hw)
            · replace hw := hw.2 w9
              refine r_ldc d_X_drawn_38 lc_X_145 ?_
              exact r_ireturn d_X_drawn_40.1 rfl (hQ _ _ hw)
set_option maxRecDepth 100000 in
set_option maxHeartbeats 4000000 in
theorem s_X_chance_L26 {d : Nat} (hd : 3 ≤ d + 1) {Q : Int32 → Hp → Prop} {QQ : Option AV → Hp → Prop} (hQ : ∀ r9 h9, Q r9 h9 → QQ (some (ai r9)) h9) {v0 : Nat} {v1 : Int32} {v2 : Int32} : ∀ (n : Nat) (v3 : Int32) (v4 : Int32) (h : Hp), w_X_chance_L26 Q  v0 v1 v2 n v3 v4 h → aW none m_X_chance (d + 1) 26 [(0, ar v0), (1, ai v1), (2, ai v2), (3, ai v3), (4, ai v4)] [] h 0 0 QQ := by
  intro n
  induction n with
  | zero => intro v3 v4 h hw; exact hw.elim
  | succ n ih =>
    intro v3 v4 h hw
    unfold w_X_chance_L26 at hw
    refine r_iload (j := 4) d_X_chance_26 rfl ?_
    refine r_bipush d_X_chance_28 kb_100 ?_
    refine r_icmp_ge d_X_chance_30 (fun w9 => ?_) (fun w9 => ?_)
    · replace hw := hw.1 w9
      refine r_iload_n (j := 3) d_X_chance_55 rfl ?_
      exact r_ireturn d_X_chance_56.1 rfl (hQ _ _ hw)
    · replace hw := hw.2 w9
      refine r_aload_n (j := 0) d_X_chance_33 rfl ?_
      refine r_iload (j := 4) d_X_chance_34 rfl ?_
      refine r_iload_n (j := 1) d_X_chance_36 rfl ?_
      obtain ⟨q7, hw⟩ := hw
      refine r_callV (av := [ai v4, ai v1]) (rest := []) (ci := 11) d_X_chance_37 mk_X_drawnStray ll_X_320 im_X_drawnStray se_X_drawnStray rfl (nle rfl) rfl rfl (nle rfl) q7 (s_X_drawnStray (by omega) hw (fun r6 h5 hw => ?_))
      show aW none m_X_chance (d + 1) 40 [(0, ar v0), (1, ai v1), (2, ai v2), (3, ai v3), (4, ai v4)] [ai r6] h5 0 0 QQ
      refine r_iload_n (j := 2) d_X_chance_40 rfl ?_
      refine r_iload_n (j := 1) d_X_chance_41 rfl ?_
      refine r_imul d_X_chance_42 ?_
      refine r_icmp_gt d_X_chance_43 (fun w9 => ?_) (fun w9 => ?_)
      · replace hw := hw.1 w9
        refine r_iinc (j := 4) (ls2 := [(4, ai (v4 + (1 : Int32))), (0, ar v0), (1, ai v1), (2, ai v2), (3, ai v3)]) d_X_chance_49 rfl (congrArg (HAdd.hAdd v4) kc_1) (nle rfl) rfl ?_
        refine r_goto d_X_chance_52 ?_
        refine r_pick (ls2 := [(0, ar v0), (1, ai v1), (2, ai v2), (3, ai v3), (4, ai (v4 + (1 : Int32)))]) [1, 2, 3, 4, 0] rfl ?_
        exact ih _ _ _ hw
      · replace hw := hw.2 w9
        refine r_iinc (j := 3) (ls2 := [(3, ai (v3 + (1 : Int32))), (0, ar v0), (1, ai v1), (2, ai v2), (4, ai v4)]) d_X_chance_46 rfl (congrArg (HAdd.hAdd v3) kc_1) (nle rfl) rfl ?_
        refine r_iinc (j := 4) (ls2 := [(4, ai (v4 + (1 : Int32))), (3, ai (v3 + (1 : Int32))), (0, ar v0), (1, ai v1), (2, ai v2)]) d_X_chance_49 rfl (congrArg (HAdd.hAdd v4) kc_1) (nle rfl) rfl ?_
        refine r_goto d_X_chance_52 ?_
        refine r_pick (ls2 := [(0, ar v0), (1, ai v1), (2, ai v2), (3, ai (v3 + (1 : Int32))), (4, ai (v4 + (1 : Int32)))]) [2, 3, 4, 1, 0] rfl ?_
        exact ih _ _ _ hw
set_option maxRecDepth 100000 in
set_option maxHeartbeats 4000000 in
theorem s_X_chance {d : Nat} (hd : 3 ≤ d) {v0 : Nat} {v1 : Int32} {v2 : Int32} {h : Hp} {Q : Int32 → Hp → Prop} {QQ : Option AV → Hp → Prop} (hw : w_X_chance v0 v1 v2 h Q) (hQ : ∀ r9 h9, Q r9 h9 → QQ (some (ai r9)) h9) : aCall m_X_chance d [ar v0, ai v1, ai v2] h 0 0 QQ := by
  obtain ⟨d, rfl⟩ : ∃ d9, d = d9 + 1 := ⟨d - 1, by omega⟩
  refine aCall_in pl_X_chance (nle rfl) ?_
  show aW none m_X_chance (d + 1) 0 [(0, ar v0), (1, ai v1), (2, ai v2)] [] h 0 0 QQ
  unfold w_X_chance at hw
  refine r_iload_n (j := 1) d_X_chance_0 rfl ?_
  refine r_iload_n (j := 2) d_X_chance_1 rfl ?_
  refine r_callS (av := [ai v1, ai v2]) (rest := []) d_X_chance_2 mk_X_isStrip ll_X_225 st_X_isStrip rfl rfl (nle rfl) (s_X_isStrip (by omega) hw (fun r2 h1 hw => ?_))
  show aW none m_X_chance (d + 1) 5 [(0, ar v0), (1, ai v1), (2, ai v2)] [ai (b2i r2)] h1 0 0 QQ
  refine r_if_eq d_X_chance_5 (fun w9 => ?_) (fun w9 => ?_)
  · replace hw := hw.1 (b2i_0.mp w9)
    refine r_iconst d_X_chance_19 kc_m1 ?_
    exact r_ireturn d_X_chance_20.1 rfl (hQ _ _ hw)
  · replace hw := hw.2 (fun g9 => w9 (b2i_0.mpr g9))
    refine r_aload_n (j := 0) d_X_chance_8 rfl ?_
    obtain ⟨q3, hw⟩ := hw
    refine r_getR d_X_chance_9 ok_11 (nle rfl) (nle rfl) rfl lf_X_23 q3 ?_
    obtain ⟨q4, hw⟩ := hw
    refine r_getI d_X_chance_12 ok_1 (nle rfl) (nle rfl) rfl lf_X_129 q4 ?_
    refine r_iconst d_X_chance_15 kc_1 ?_
    refine r_icmp_ge d_X_chance_16 (fun w9 => ?_) (fun w9 => ?_)
    · replace hw := hw.1 w9
      refine r_iconst d_X_chance_21 kc_0 ?_
      refine r_istore_n (ls2 := [(3, ai (0 : Int32)), (0, ar v0), (1, ai v1), (2, ai v2)]) d_X_chance_22 (nle rfl) rfl ?_
      refine r_iconst d_X_chance_23 kc_0 ?_
      refine r_istore (ls2 := [(4, ai (0 : Int32)), (3, ai (0 : Int32)), (0, ar v0), (1, ai v1), (2, ai v2)]) d_X_chance_24 (nle rfl) rfl ?_
      obtain ⟨n8, hw⟩ := hw
      refine r_pick (ls2 := [(0, ar v0), (1, ai v1), (2, ai v2), (3, ai (0 : Int32)), (4, ai (0 : Int32))]) [2, 3, 4, 1, 0] rfl ?_
      exact s_X_chance_L26 hd hQ  n8 _ _ _ hw
    · replace hw := hw.2 w9
      refine r_iconst d_X_chance_19 kc_m1 ?_
      exact r_ireturn d_X_chance_20.1 rfl (hQ _ _ hw)
set_option maxRecDepth 100000 in
set_option maxHeartbeats 4000000 in
theorem s_X_isSeenLength {d : Nat} {v0 : Int32} {h : Hp} {Q : Bool → Hp → Prop} {QQ : Option AV → Hp → Prop} (hw : w_X_isSeenLength v0 h Q) (hQ : ∀ r9 h9, Q r9 h9 → QQ (some (ai (b2i r9))) h9) : aCall m_X_isSeenLength d [ai v0] h 0 0 QQ := by
  refine aCall_in pl_X_isSeenLength (nle rfl) ?_
  show aW none m_X_isSeenLength d 0 [(0, ai v0)] [] h 0 0 QQ
  unfold w_X_isSeenLength at hw
  refine r_iload_n (j := 0) d_X_isSeenLength_0 rfl ?_
  refine r_if_lt d_X_isSeenLength_1 (fun w9 => ?_) (fun w9 => ?_)
  · replace hw := hw.1 w9
    refine r_iconst d_X_isSeenLength_14 kc_0 ?_
    exact r_zreturn d_X_isSeenLength_15.1 rfl (Or.inl rfl) (hQ _ _ hw)
  · replace hw := hw.2 w9
    refine r_iload_n (j := 0) d_X_isSeenLength_4 rfl ?_
    refine r_bipush d_X_isSeenLength_5 kb_8 ?_
    refine r_icmp_gt d_X_isSeenLength_7 (fun w9 => ?_) (fun w9 => ?_)
    · replace hw := hw.1 w9
      refine r_iconst d_X_isSeenLength_14 kc_0 ?_
      exact r_zreturn d_X_isSeenLength_15.1 rfl (Or.inl rfl) (hQ _ _ hw)
    · replace hw := hw.2 w9
      refine r_iconst d_X_isSeenLength_10 kc_1 ?_
      refine r_goto d_X_isSeenLength_11 ?_
      exact r_zreturn d_X_isSeenLength_15.1 rfl (Or.inr rfl) (hQ _ _ hw)
set_option maxRecDepth 100000 in
set_option maxHeartbeats 4000000 in
theorem s_X_isSeenSum {d : Nat} {v0 : Int32} {h : Hp} {Q : Bool → Hp → Prop} {QQ : Option AV → Hp → Prop} (hw : w_X_isSeenSum v0 h Q) (hQ : ∀ r9 h9, Q r9 h9 → QQ (some (ai (b2i r9))) h9) : aCall m_X_isSeenSum d [ai v0] h 0 0 QQ := by
  refine aCall_in pl_X_isSeenSum (nle rfl) ?_
  show aW none m_X_isSeenSum d 0 [(0, ai v0)] [] h 0 0 QQ
  unfold w_X_isSeenSum at hw
  refine r_iload_n (j := 0) d_X_isSeenSum_0 rfl ?_
  refine r_bipush d_X_isSeenSum_1 kb_m80 ?_
  refine r_icmp_lt d_X_isSeenSum_3 (fun w9 => ?_) (fun w9 => ?_)
  · replace hw := hw.1 w9
    refine r_iconst d_X_isSeenSum_16 kc_0 ?_
    exact r_zreturn d_X_isSeenSum_17.1 rfl (Or.inl rfl) (hQ _ _ hw)
  · replace hw := hw.2 w9
    refine r_iload_n (j := 0) d_X_isSeenSum_6 rfl ?_
    refine r_bipush d_X_isSeenSum_7 kb_80 ?_
    refine r_icmp_gt d_X_isSeenSum_9 (fun w9 => ?_) (fun w9 => ?_)
    · replace hw := hw.1 w9
      refine r_iconst d_X_isSeenSum_16 kc_0 ?_
      exact r_zreturn d_X_isSeenSum_17.1 rfl (Or.inl rfl) (hQ _ _ hw)
    · replace hw := hw.2 w9
      refine r_iconst d_X_isSeenSum_12 kc_1 ?_
      refine r_goto d_X_isSeenSum_13 ?_
      exact r_zreturn d_X_isSeenSum_17.1 rfl (Or.inr rfl) (hQ _ _ hw)
set_option maxRecDepth 100000 in
set_option maxHeartbeats 4000000 in
theorem s_X_seen_B82 {d : Nat} (hd : 63 ≤ d + 1) {Q : Int32 → Hp → Prop} {QQ : Option AV → Hp → Prop} (hQ : ∀ r9 h9, Q r9 h9 → QQ (some (ai r9)) h9) {v0 : Nat} {v1 : Int32} {v5 : Int32} {s0 : Nat} {s1 : Int32} {s2 : Int32} {h : Hp} (hw : w_X_seen_B82 Q  v0 v1 v5 s0 s1 s2 h) : aW none m_X_seen (d + 1) 82 [(0, ar v0), (1, ai v1), (5, ai v5)] [ar s0, ai s1, ai s2] h 0 0 QQ := by
  unfold w_X_seen_B82 at hw
  obtain ⟨q17, hw⟩ := hw
  obtain ⟨q18, hw⟩ := hw
  refine r_iast d_X_seen_82 q17 q18 ?_
  refine r_aload_n (j := 0) d_X_seen_83 rfl ?_
  obtain ⟨q19, hw⟩ := hw
  refine r_getR d_X_seen_84 ok_11 (nle rfl) (nle rfl) rfl lf_X_99 q19 ?_
  refine r_iload_n (j := 1) d_X_seen_87 rfl ?_
  refine r_aload_n (j := 0) d_X_seen_88 rfl ?_
  refine r_getR d_X_seen_89 ok_11 (nle rfl) (nle rfl) rfl lf_X_103 q19 ?_
  refine r_iload (j := 2) d_X_seen_92 rfl ?_
  obtain ⟨q22, hw⟩ := hw
  refine r_callV (av := [ai v1, ar (gR h v0 14), ai v5]) (rest := []) (ci := 5) d_X_seen_94 mk_Kn_tell ll_X_355 im_Kn_tell se_Kn_tell rfl (nle rfl) rfl rfl (nle rfl) q22 (s_Kn_tell (by omega) hw (fun r21 h20 hw => ?_))
  show aW none m_X_seen (d + 1) 97 [(0, ar v0), (1, ai v1), (5, ai v5)] [ai r21] h20 0 0 QQ
  exact r_ireturn d_X_seen_97.1 rfl (hQ _ _ hw)
set_option maxRecDepth 100000 in
set_option maxHeartbeats 4000000 in
theorem s_X_seen_B59 {d : Nat} (hd : 63 ≤ d + 1) {Q : Int32 → Hp → Prop} {QQ : Option AV → Hp → Prop} (hQ : ∀ r9 h9, Q r9 h9 → QQ (some (ai r9)) h9) {v0 : Nat} {v1 : Int32} {v4 : Int32} {v5 : Int32} {s0 : Nat} {s1 : Int32} {s2 : Int32} {h : Hp} (hw : w_X_seen_B59 Q  v0 v1 v4 v5 s0 s1 s2 h) : aW none m_X_seen (d + 1) 59 [(0, ar v0), (1, ai v1), (4, ai v4), (5, ai v5)] [ar s0, ai s1, ai s2] h 0 0 QQ := by
  unfold w_X_seen_B59 at hw
  obtain ⟨q13, hw⟩ := hw
  obtain ⟨q14, hw⟩ := hw
  refine r_iast d_X_seen_59 q13 q14 ?_
  refine r_aload_n (j := 0) d_X_seen_60 rfl ?_
  obtain ⟨q15, hw⟩ := hw
  refine r_getR d_X_seen_61 ok_11 (nle rfl) (nle rfl) rfl lf_X_103 q15 ?_
  refine r_iconst d_X_seen_64 kc_2 ?_
  refine r_aload_n (j := 0) d_X_seen_65 rfl ?_
  refine r_getR d_X_seen_66 ok_11 (nle rfl) (nle rfl) rfl lf_X_19 q15 ?_
  obtain ⟨q16, hw⟩ := hw
  refine r_getI d_X_seen_69 ok_1 (nle rfl) (nle rfl) rfl lf_X_352 q16 ?_
  refine r_iconst d_X_seen_72 kc_2 ?_
  refine r_icmp_le d_X_seen_73 (fun w9 => ?_) (fun w9 => ?_)
  · replace hw := hw.1 w9
    refine r_iconst d_X_seen_81 kc_0 ?_
    refine r_pick (ls2 := [(0, ar v0), (1, ai v1), (5, ai v5)]) [0, 1, 3] rfl ?_
    exact s_X_seen_B82 hd hQ  hw
  · replace hw := hw.2 w9
    refine r_iload (j := 2) d_X_seen_76 rfl ?_
    refine r_goto d_X_seen_78 ?_
    refine r_pick (ls2 := [(0, ar v0), (1, ai v1), (5, ai v5)]) [0, 1, 3] rfl ?_
    exact s_X_seen_B82 hd hQ  hw
set_option maxRecDepth 100000 in
set_option maxHeartbeats 4000000 in
theorem s_X_seen {d : Nat} (hd : 63 ≤ d) {v0 : Nat} {v1 : Int32} {v2 : Int32} {v3 : Int32} {v4 : Int32} {v5 : Int32} {h : Hp} {Q : Int32 → Hp → Prop} {QQ : Option AV → Hp → Prop} (hw : w_X_seen v0 v1 v2 v3 v4 v5 h Q) (hQ : ∀ r9 h9, Q r9 h9 → QQ (some (ai r9)) h9) : aCall m_X_seen d [ar v0, ai v1, ai v2, ai v3, ai v4, ai v5] h 0 0 QQ := by
  obtain ⟨d, rfl⟩ : ∃ d9, d = d9 + 1 := ⟨d - 1, by omega⟩
  refine aCall_in pl_X_seen (nle rfl) ?_
  show aW none m_X_seen (d + 1) 0 [(0, ar v0), (1, ai v1), (2, ai v2), (3, ai v3), (4, ai v4), (5, ai v5)] [] h 0 0 QQ
  unfold w_X_seen at hw
  refine r_iload_n (j := 1) d_X_seen_0 rfl ?_
  refine r_callS (av := [ai v1]) (rest := []) d_X_seen_1 mk_X_isSeenLength ll_X_346 st_X_isSeenLength rfl rfl (nle rfl) (s_X_isSeenLength  hw (fun r2 h1 hw => ?_))
  show aW none m_X_seen (d + 1) 4 [(0, ar v0), (1, ai v1), (2, ai v2), (3, ai v3), (4, ai v4), (5, ai v5)] [ai (b2i r2)] h1 0 0 QQ
  refine r_if_eq d_X_seen_4 (fun w9 => ?_) (fun w9 => ?_)
  · replace hw := hw.1 (b2i_0.mp w9)
    refine r_iconst d_X_seen_29 kc_m1 ?_
    exact r_ireturn d_X_seen_30.1 rfl (hQ _ _ hw)
  · replace hw := hw.2 (fun g9 => w9 (b2i_0.mpr g9))
    refine r_iload_n (j := 2) d_X_seen_7 rfl ?_
    refine r_callS (av := [ai v2]) (rest := []) d_X_seen_8 mk_X_isSeenSum ll_X_349 st_X_isSeenSum rfl rfl (nle rfl) (s_X_isSeenSum  hw (fun r4 h3 hw => ?_))
    show aW none m_X_seen (d + 1) 11 [(0, ar v0), (1, ai v1), (2, ai v2), (3, ai v3), (4, ai v4), (5, ai v5)] [ai (b2i r4)] h3 0 0 QQ
    refine r_if_eq d_X_seen_11 (fun w9 => ?_) (fun w9 => ?_)
    · replace hw := hw.1 (b2i_0.mp w9)
      refine r_iconst d_X_seen_29 kc_m1 ?_
      exact r_ireturn d_X_seen_30.1 rfl (hQ _ _ hw)
    · replace hw := hw.2 (fun g9 => w9 (b2i_0.mpr g9))
      refine r_iload_n (j := 3) d_X_seen_14 rfl ?_
      refine r_callS (av := [ai v3]) (rest := []) d_X_seen_15 mk_X_isSeenSum ll_X_349 st_X_isSeenSum rfl rfl (nle rfl) (s_X_isSeenSum  hw (fun r6 h5 hw => ?_))
      show aW none m_X_seen (d + 1) 18 [(0, ar v0), (1, ai v1), (2, ai v2), (3, ai v3), (4, ai v4), (5, ai v5)] [ai (b2i r6)] h5 0 0 QQ
      refine r_if_eq d_X_seen_18 (fun w9 => ?_) (fun w9 => ?_)
      · replace hw := hw.1 (b2i_0.mp w9)
        refine r_iconst d_X_seen_29 kc_m1 ?_
        exact r_ireturn d_X_seen_30.1 rfl (hQ _ _ hw)
      · replace hw := hw.2 (fun g9 => w9 (b2i_0.mpr g9))
        refine r_iload (j := 4) d_X_seen_21 rfl ?_
        refine r_callS (av := [ai v4]) (rest := []) d_X_seen_23 mk_X_isSeenSum ll_X_349 st_X_isSeenSum rfl rfl (nle rfl) (s_X_isSeenSum  hw (fun r8 h7 hw => ?_))
        show aW none m_X_seen (d + 1) 26 [(0, ar v0), (1, ai v1), (2, ai v2), (3, ai v3), (4, ai v4), (5, ai v5)] [ai (b2i r8)] h7 0 0 QQ
        refine r_if_ne d_X_seen_26 (fun w9 => ?_) (fun w9 => ?_)
        · replace hw := hw.2 (fun g9 => w9 (b2i_0.mpr g9))
          refine r_aload_n (j := 0) d_X_seen_31 rfl ?_
          obtain ⟨q9, hw⟩ := hw
          refine r_getR d_X_seen_32 ok_11 (nle rfl) (nle rfl) rfl lf_X_103 q9 ?_
          refine r_iconst d_X_seen_35 kc_0 ?_
          refine r_iload_n (j := 2) d_X_seen_36 rfl ?_
          obtain ⟨q10, hw⟩ := hw
          obtain ⟨q11, hw⟩ := hw
          refine r_iast d_X_seen_37 q10 q11 ?_
          refine r_aload_n (j := 0) d_X_seen_38 rfl ?_
          refine r_getR d_X_seen_39 ok_11 (nle rfl) (nle rfl) rfl lf_X_103 q9 ?_
          refine r_iconst d_X_seen_42 kc_1 ?_
          refine r_aload_n (j := 0) d_X_seen_43 rfl ?_
          refine r_getR d_X_seen_44 ok_11 (nle rfl) (nle rfl) rfl lf_X_19 q9 ?_
          obtain ⟨q12, hw⟩ := hw
          refine r_getI d_X_seen_47 ok_1 (nle rfl) (nle rfl) rfl lf_X_352 q12 ?_
          refine r_iconst d_X_seen_50 kc_1 ?_
          refine r_icmp_le d_X_seen_51 (fun w9 => ?_) (fun w9 => ?_)
          · replace hw := hw.1 w9
            refine r_iconst d_X_seen_58 kc_0 ?_
            refine r_pick (ls2 := [(0, ar v0), (1, ai v1), (4, ai v4), (5, ai v5)]) [0, 1, 4, 5] rfl ?_
            exact s_X_seen_B59 hd hQ  hw
          · replace hw := hw.2 w9
            refine r_iload_n (j := 3) d_X_seen_54 rfl ?_
            refine r_goto d_X_seen_55 ?_
            refine r_pick (ls2 := [(0, ar v0), (1, ai v1), (4, ai v4), (5, ai v5)]) [0, 1, 4, 5] rfl ?_
            exact s_X_seen_B59 hd hQ  hw
        · replace hw := hw.1 (b2i_0.mp w9)
          refine r_iconst d_X_seen_29 kc_m1 ?_
          exact r_ireturn d_X_seen_30.1 rfl (hQ _ _ hw)
set_option maxRecDepth 100000 in
set_option maxHeartbeats 4000000 in
theorem s_X_untell {d : Nat} (hd : 1 ≤ d) {v0 : Nat} {v1 : Int32} {h : Hp} {Q : Bool → Hp → Prop} {QQ : Option AV → Hp → Prop} (hw : w_X_untell v0 v1 h Q) (hQ : ∀ r9 h9, Q r9 h9 → QQ (some (ai (b2i r9))) h9) : aCall m_X_untell d [ar v0, ai v1] h 0 0 QQ := by
  obtain ⟨d, rfl⟩ : ∃ d9, d = d9 + 1 := ⟨d - 1, by omega⟩
  refine aCall_in pl_X_untell (nle rfl) ?_
  show aW none m_X_untell (d + 1) 0 [(0, ar v0), (1, ai v1)] [] h 0 0 QQ
  unfold w_X_untell at hw
  refine r_aload_n (j := 0) d_X_untell_0 rfl ?_
  obtain ⟨q1, hw⟩ := hw
  refine r_getR d_X_untell_1 ok_11 (nle rfl) (nle rfl) rfl lf_X_99 q1 ?_
  refine r_iload_n (j := 1) d_X_untell_4 rfl ?_
  obtain ⟨q4, hw⟩ := hw
  refine r_callV (av := [ai v1]) (rest := []) (ci := 5) d_X_untell_5 mk_Kn_takeAway ll_X_359 im_Kn_takeAway se_Kn_takeAway rfl (nle rfl) rfl rfl (nle rfl) q4 (s_Kn_takeAway  hw (fun r3 h2 hw => ?_))
  show aW none m_X_untell (d + 1) 8 [(0, ar v0), (1, ai v1)] [ai (b2i r3)] h2 0 0 QQ
  exact r_zreturn d_X_untell_8.1 rfl (b2i_B _) (hQ _ _ hw)
set_option maxRecDepth 100000 in
set_option maxHeartbeats 4000000 in
theorem s_X_later {d : Nat} {v0 : Nat} {v1 : Int32} {h : Hp} {Q : Int32 → Hp → Prop} {QQ : Option AV → Hp → Prop} (hw : w_X_later v0 v1 h Q) (hQ : ∀ r9 h9, Q r9 h9 → QQ (some (ai r9)) h9) : aCall m_X_later d [ar v0, ai v1] h 0 0 QQ := by
  refine aCall_in pl_X_later (nle rfl) ?_
  show aW none m_X_later d 0 [(0, ar v0), (1, ai v1)] [] h 0 0 QQ
  unfold w_X_later at hw
  refine r_iload_n (j := 1) d_X_later_0 rfl ?_
  refine r_if_lt d_X_later_1 (fun w9 => ?_) (fun w9 => ?_)
  · replace hw := hw.1 w9
    refine r_iconst d_X_later_26 kc_m1 ?_
    exact r_ireturn d_X_later_27.1 rfl (hQ _ _ hw)
  · replace hw := hw.2 w9
    refine r_iload_n (j := 1) d_X_later_4 rfl ?_
    refine r_sipush d_X_later_5 ks_1000 ?_
    refine r_icmp_gt d_X_later_8 (fun w9 => ?_) (fun w9 => ?_)
    · replace hw := hw.1 w9
      refine r_iconst d_X_later_26 kc_m1 ?_
      exact r_ireturn d_X_later_27.1 rfl (hQ _ _ hw)
    · replace hw := hw.2 w9
      refine r_aload_n (j := 0) d_X_later_11 rfl ?_
      obtain ⟨q1, hw⟩ := hw
      refine r_getR d_X_later_12 ok_11 (nle rfl) (nle rfl) rfl lf_X_99 q1 ?_
      obtain ⟨q2, hw⟩ := hw
      refine r_getI d_X_later_15 ok_5 (nle rfl) (nle rfl) rfl lf_X_362 q2 ?_
      refine r_iload_n (j := 1) d_X_later_18 rfl ?_
      refine r_iadd d_X_later_19 ?_
      refine r_ldcw d_X_later_20 lc_X_365 ?_
      refine r_icmp_le d_X_later_23 (fun w9 => ?_) (fun w9 => ?_)
      · replace hw := hw.1 w9
        refine r_aload_n (j := 0) d_X_later_28 rfl ?_
        refine r_getR d_X_later_29 ok_11 (nle rfl) (nle rfl) rfl lf_X_99 q1 ?_
        refine r_dup d_X_later_32 rfl ?_
        refine r_getI d_X_later_33 ok_5 (nle rfl) (nle rfl) rfl lf_X_362 q2 ?_
        refine r_iload_n (j := 1) d_X_later_36 rfl ?_
        refine r_iadd d_X_later_37 ?_
        refine r_putI d_X_later_38 ok_5 (nle rfl) (nle rfl) rfl lf_X_362 rfl q2 ?_
        refine r_aload_n (j := 0) d_X_later_41 rfl ?_
        refine r_getR d_X_later_42 ok_11 (nle rfl) (nle rfl) rfl lf_X_99 q1 ?_
        refine r_getI d_X_later_45 ok_5 (nle rfl) (nle rfl) rfl lf_X_362 q2 ?_
        exact r_ireturn d_X_later_48.1 rfl (hQ _ _ hw)
      · replace hw := hw.2 w9
        refine r_iconst d_X_later_26 kc_m1 ?_
        exact r_ireturn d_X_later_27.1 rfl (hQ _ _ hw)
set_option maxRecDepth 100000 in
set_option maxHeartbeats 4000000 in
theorem s_X_fits {d : Nat} (hd : 3 ≤ d) {v0 : Nat} {v1 : Int32} {h : Hp} {Q : Int32 → Hp → Prop} {QQ : Option AV → Hp → Prop} (hw : w_X_fits v0 v1 h Q) (hQ : ∀ r9 h9, Q r9 h9 → QQ (some (ai r9)) h9) : aCall m_X_fits d [ar v0, ai v1] h 0 0 QQ := by
  obtain ⟨d, rfl⟩ : ∃ d9, d = d9 + 1 := ⟨d - 1, by omega⟩
  refine aCall_in pl_X_fits (nle rfl) ?_
  show aW none m_X_fits (d + 1) 0 [(0, ar v0), (1, ai v1)] [] h 0 0 QQ
  unfold w_X_fits at hw
  refine r_aload_n (j := 0) d_X_fits_0 rfl ?_
  obtain ⟨q1, hw⟩ := hw
  refine r_getR d_X_fits_1 ok_11 (nle rfl) (nle rfl) rfl lf_X_99 q1 ?_
  refine r_iload_n (j := 1) d_X_fits_4 rfl ?_
  obtain ⟨q4, hw⟩ := hw
  refine r_callV (av := [ai v1]) (rest := []) (ci := 5) d_X_fits_5 mk_Kn_fitting ll_X_366 im_Kn_fitting se_Kn_fitting rfl (nle rfl) rfl rfl (nle rfl) q4 (s_Kn_fitting (by omega) hw (fun r3 h2 hw => ?_))
  show aW none m_X_fits (d + 1) 8 [(0, ar v0), (1, ai v1)] [ai r3] h2 0 0 QQ
  refine r_callS (av := [ai r3]) (rest := []) d_X_fits_8 mk_JI_bitCount ll_X_369 st_JI_bitCount rfl rfl (nle rfl) (s_JI_bitCount  hw (fun r6 h5 hw => ?_))
  show aW none m_X_fits (d + 1) 11 [(0, ar v0), (1, ai v1)] [ai r6] h5 0 0 QQ
  exact r_ireturn d_X_fits_11.1 rfl (hQ _ _ hw)
set_option maxRecDepth 100000 in
set_option maxHeartbeats 4000000 in
theorem s_X_fit_L15 {d : Nat} (hd : 3 ≤ d + 1) {Q : Int32 → Hp → Prop} {QQ : Option AV → Hp → Prop} (hQ : ∀ r9 h9, Q r9 h9 → QQ (some (ai r9)) h9) {v1 : Int32} {v3 : Int32} : ∀ (n : Nat) (v4 : Int32) (v5 : Int32) (h : Hp), w_X_fit_L15 Q  v1 v3 n v4 v5 h → aW none m_X_fit (d + 1) 15 [(1, ai v1), (3, ai v3), (4, ai v4), (5, ai v5)] [] h 0 0 QQ := by
  intro n
  induction n with
  | zero => intro v4 v5 h hw; exact hw.elim
  | succ n ih =>
    intro v4 v5 h hw
    unfold w_X_fit_L15 at hw
    refine r_iload (j := 3) d_X_fit_15 rfl ?_
    refine r_bipush d_X_fit_17 kb_8 ?_
    refine r_icmp_gt d_X_fit_19 (fun w9 => ?_) (fun w9 => ?_)
    · replace hw := hw.1 w9
      refine r_bipush d_X_fit_51 kb_m2 ?_
      exact r_ireturn d_X_fit_53.1 rfl (hQ _ _ hw)
    · replace hw := hw.2 w9
      refine r_iload_n (j := 1) d_X_fit_22 rfl ?_
      refine r_iload (j := 3) d_X_fit_23 rfl ?_
      refine r_ishr d_X_fit_25 ?_
      refine r_iconst d_X_fit_26 kc_1 ?_
      refine r_iand d_X_fit_27 ?_
      refine r_if_eq d_X_fit_28 (fun w9 => ?_) (fun w9 => ?_)
      · replace hw := hw.1 w9
        refine r_iinc (j := 3) (ls2 := [(5, ai (v5 + (1 : Int32))), (1, ai v1), (3, ai v3), (4, ai v4)]) d_X_fit_45 rfl (congrArg (HAdd.hAdd v5) kc_1) (nle rfl) rfl ?_
        refine r_goto d_X_fit_48 ?_
        refine r_pick (ls2 := [(1, ai v1), (3, ai v3), (4, ai v4), (5, ai (v5 + (1 : Int32)))]) [1, 2, 3, 0] rfl ?_
        exact ih _ _ _ hw
      · replace hw := hw.2 w9
        refine r_iload (j := 2) d_X_fit_31 rfl ?_
        refine r_iload_n (j := 0) d_X_fit_33 rfl ?_
        refine r_icmp_ne d_X_fit_34 (fun w9 => ?_) (fun w9 => ?_)
        · replace hw := hw.2 w9
          refine r_iinc (j := 2) (ls2 := [(4, ai (v4 + (1 : Int32))), (1, ai v1), (3, ai v3), (5, ai v5)]) d_X_fit_42 rfl (congrArg (HAdd.hAdd v4) kc_1) (nle rfl) rfl ?_
          refine r_iinc (j := 3) (ls2 := [(5, ai (v5 + (1 : Int32))), (4, ai (v4 + (1 : Int32))), (1, ai v1), (3, ai v3)]) d_X_fit_45 rfl (congrArg (HAdd.hAdd v5) kc_1) (nle rfl) rfl ?_
          refine r_goto d_X_fit_48 ?_
          refine r_pick (ls2 := [(1, ai v1), (3, ai v3), (4, ai (v4 + (1 : Int32))), (5, ai (v5 + (1 : Int32)))]) [2, 3, 1, 0] rfl ?_
          exact ih _ _ _ hw
        · replace hw := hw.1 w9
          refine r_iload (j := 3) d_X_fit_37 rfl ?_
          refine r_iconst d_X_fit_39 kc_1 ?_
          refine r_isub d_X_fit_40 ?_
          exact r_ireturn d_X_fit_41.1 rfl (hQ _ _ hw)
set_option maxRecDepth 100000 in
set_option maxHeartbeats 4000000 in
theorem s_X_fit {d : Nat} (hd : 3 ≤ d) {v0 : Nat} {v1 : Int32} {v2 : Int32} {h : Hp} {Q : Int32 → Hp → Prop} {QQ : Option AV → Hp → Prop} (hw : w_X_fit v0 v1 v2 h Q) (hQ : ∀ r9 h9, Q r9 h9 → QQ (some (ai r9)) h9) : aCall m_X_fit d [ar v0, ai v1, ai v2] h 0 0 QQ := by
  obtain ⟨d, rfl⟩ : ∃ d9, d = d9 + 1 := ⟨d - 1, by omega⟩
  refine aCall_in pl_X_fit (nle rfl) ?_
  show aW none m_X_fit (d + 1) 0 [(0, ar v0), (1, ai v1), (2, ai v2)] [] h 0 0 QQ
  unfold w_X_fit at hw
  refine r_aload_n (j := 0) d_X_fit_0 rfl ?_
  obtain ⟨q1, hw⟩ := hw
  refine r_getR d_X_fit_1 ok_11 (nle rfl) (nle rfl) rfl lf_X_99 q1 ?_
  refine r_iload_n (j := 2) d_X_fit_4 rfl ?_
  obtain ⟨q4, hw⟩ := hw
  refine r_callV (av := [ai v2]) (rest := []) (ci := 5) d_X_fit_5 mk_Kn_fitting ll_X_366 im_Kn_fitting se_Kn_fitting rfl (nle rfl) rfl rfl (nle rfl) q4 (s_Kn_fitting (by omega) hw (fun r3 h2 hw => ?_))
  show aW none m_X_fit (d + 1) 8 [(0, ar v0), (1, ai v1), (2, ai v2)] [ai r3] h2 0 0 QQ
  refine r_istore_n (ls2 := [(3, ai r3), (0, ar v0), (1, ai v1), (2, ai v2)]) d_X_fit_8 (nle rfl) rfl ?_
  refine r_iconst d_X_fit_9 kc_0 ?_
  refine r_istore (ls2 := [(4, ai (0 : Int32)), (3, ai r3), (0, ar v0), (1, ai v1), (2, ai v2)]) d_X_fit_10 (nle rfl) rfl ?_
  refine r_iconst d_X_fit_12 kc_0 ?_
  refine r_istore (ls2 := [(5, ai (0 : Int32)), (4, ai (0 : Int32)), (3, ai r3), (0, ar v0), (1, ai v1), (2, ai v2)]) d_X_fit_13 (nle rfl) rfl ?_
  obtain ⟨n5, hw⟩ := hw
  refine r_pick (ls2 := [(1, ai v1), (3, ai r3), (4, ai (0 : Int32)), (5, ai (0 : Int32))]) [4, 2, 1, 0] rfl ?_
  exact s_X_fit_L15 hd hQ  n5 _ _ _ hw
set_option maxRecDepth 100000 in
set_option maxHeartbeats 4000000 in
theorem s_X_ask {d : Nat} (hd : 4 ≤ d) {v0 : Nat} {v1 : Int32} {v2 : Int32} {v3 : Int32} {h : Hp} {Q : Int32 → Hp → Prop} {QQ : Option AV → Hp → Prop} (hw : w_X_ask v0 v1 v2 v3 h Q) (hQ : ∀ r9 h9, Q r9 h9 → QQ (some (ai r9)) h9) : aCall m_X_ask d [ar v0, ai v1, ai v2, ai v3] h 0 0 QQ := by
  obtain ⟨d, rfl⟩ : ∃ d9, d = d9 + 1 := ⟨d - 1, by omega⟩
  refine aCall_in pl_X_ask (nle rfl) ?_
  show aW none m_X_ask (d + 1) 0 [(0, ar v0), (1, ai v1), (2, ai v2), (3, ai v3)] [] h 0 0 QQ
  unfold w_X_ask at hw
  refine r_iload_n (j := 1) d_X_ask_0 rfl ?_
  refine r_callS (av := [ai v1]) (rest := []) d_X_ask_1 mk_X_isSeenLength ll_X_346 st_X_isSeenLength rfl rfl (nle rfl) (s_X_isSeenLength  hw (fun r2 h1 hw => ?_))
  show aW none m_X_ask (d + 1) 4 [(0, ar v0), (1, ai v1), (2, ai v2), (3, ai v3)] [ai (b2i r2)] h1 0 0 QQ
  refine r_if_eq d_X_ask_4 (fun w9 => ?_) (fun w9 => ?_)
  · replace hw := hw.1 (b2i_0.mp w9)
    refine r_ldc d_X_ask_27 lc_X_145 ?_
    exact r_ireturn d_X_ask_29.1 rfl (hQ _ _ hw)
  · replace hw := hw.2 (fun g9 => w9 (b2i_0.mpr g9))
    refine r_iload_n (j := 2) d_X_ask_7 rfl ?_
    refine r_if_lt d_X_ask_8 (fun w9 => ?_) (fun w9 => ?_)
    · replace hw := hw.1 w9
      refine r_ldc d_X_ask_27 lc_X_145 ?_
      exact r_ireturn d_X_ask_29.1 rfl (hQ _ _ hw)
    · replace hw := hw.2 w9
      refine r_iload_n (j := 2) d_X_ask_11 rfl ?_
      refine r_iconst d_X_ask_12 kc_1 ?_
      refine r_icmp_gt d_X_ask_13 (fun w9 => ?_) (fun w9 => ?_)
      · replace hw := hw.1 w9
        refine r_ldc d_X_ask_27 lc_X_145 ?_
        exact r_ireturn d_X_ask_29.1 rfl (hQ _ _ hw)
      · replace hw := hw.2 w9
        refine r_aload_n (j := 0) d_X_ask_16 rfl ?_
        obtain ⟨q3, hw⟩ := hw
        refine r_getR d_X_ask_17 ok_11 (nle rfl) (nle rfl) rfl lf_X_99 q3 ?_
        refine r_iload_n (j := 3) d_X_ask_20 rfl ?_
        obtain ⟨q6, hw⟩ := hw
        refine r_callV (av := [ai v3]) (rest := []) (ci := 5) d_X_ask_21 mk_Kn_fitting ll_X_366 im_Kn_fitting se_Kn_fitting rfl (nle rfl) rfl rfl (nle rfl) q6 (s_Kn_fitting (by omega) hw (fun r5 h4 hw => ?_))
        show aW none m_X_ask (d + 1) 24 [(0, ar v0), (1, ai v1), (2, ai v2), (3, ai v3)] [ai r5] h4 0 0 QQ
        refine r_if_ne d_X_ask_24 (fun w9 => ?_) (fun w9 => ?_)
        · replace hw := hw.2 w9
          refine r_aload_n (j := 0) d_X_ask_30 rfl ?_
          obtain ⟨q7, hw⟩ := hw
          refine r_getR d_X_ask_31 ok_11 (nle rfl) (nle rfl) rfl lf_X_99 q7 ?_
          refine r_iload_n (j := 1) d_X_ask_34 rfl ?_
          refine r_aload_n (j := 0) d_X_ask_35 rfl ?_
          refine r_getR d_X_ask_36 ok_11 (nle rfl) (nle rfl) rfl lf_X_99 q7 ?_
          refine r_iload_n (j := 3) d_X_ask_39 rfl ?_
          obtain ⟨q10, hw⟩ := hw
          refine r_callV (av := [ai v3]) (rest := [ai v1, ar (gR h4 v0 13)]) (ci := 5) d_X_ask_40 mk_Kn_fitting ll_X_366 im_Kn_fitting se_Kn_fitting rfl (nle rfl) rfl rfl (nle rfl) q10 (s_Kn_fitting (by omega) hw (fun r9 h8 hw => ?_))
          show aW none m_X_ask (d + 1) 43 [(0, ar v0), (1, ai v1), (2, ai v2), (3, ai v3)] [ai r9, ai v1, ar (gR h4 v0 13)] h8 0 0 QQ
          obtain ⟨q12, hw⟩ := hw
          refine r_callV (av := [ai v1, ai r9]) (rest := []) (ci := 5) d_X_ask_43 mk_Kn_chooseAsk ll_X_374 im_Kn_chooseAsk se_Kn_chooseAsk rfl (nle rfl) rfl rfl (nle rfl) q12 (s_Kn_chooseAsk (by omega) hw (fun h11 hw => ?_))
          show aW none m_X_ask (d + 1) 46 [(0, ar v0), (1, ai v1), (2, ai v2), (3, ai v3)] [] h11 0 0 QQ
          refine r_iload_n (j := 2) d_X_ask_46 rfl ?_
          refine r_if_ne d_X_ask_47 (fun w9 => ?_) (fun w9 => ?_)
          · replace hw := hw.2 w9
            refine r_aload_n (j := 0) d_X_ask_60 rfl ?_
            obtain ⟨q13, hw⟩ := hw
            refine r_getR d_X_ask_61 ok_11 (nle rfl) (nle rfl) rfl lf_X_99 q13 ?_
            obtain ⟨q14, hw⟩ := hw
            refine r_getI d_X_ask_64 ok_5 (nle rfl) (nle rfl) rfl lf_X_380 q14 ?_
            exact r_ireturn d_X_ask_67.1 rfl (hQ _ _ hw)
          · replace hw := hw.1 w9
            refine r_aload_n (j := 0) d_X_ask_50 rfl ?_
            obtain ⟨q15, hw⟩ := hw
            refine r_getR d_X_ask_51 ok_11 (nle rfl) (nle rfl) rfl lf_X_99 q15 ?_
            obtain ⟨q16, hw⟩ := hw
            refine r_getI d_X_ask_54 ok_5 (nle rfl) (nle rfl) rfl lf_X_377 q16 ?_
            refine r_goto d_X_ask_57 ?_
            exact r_ireturn d_X_ask_67.1 rfl (hQ _ _ hw)
        · replace hw := hw.1 w9
          refine r_ldc d_X_ask_27 lc_X_145 ?_
          exact r_ireturn d_X_ask_29.1 rfl (hQ _ _ hw)
set_option maxRecDepth 100000 in
set_option maxHeartbeats 4000000 in
theorem s_X_image {d : Nat} (hd : 2 ≤ d) {v0 : Nat} {v1 : Int32} {h : Hp} {Q : Int32 → Hp → Prop} {QQ : Option AV → Hp → Prop} (hw : w_X_image v0 v1 h Q) (hQ : ∀ r9 h9, Q r9 h9 → QQ (some (ai r9)) h9) : aCall m_X_image d [ar v0, ai v1] h 0 0 QQ := by
  obtain ⟨d, rfl⟩ : ∃ d9, d = d9 + 1 := ⟨d - 1, by omega⟩
  refine aCall_in pl_X_image (nle rfl) ?_
  show aW none m_X_image (d + 1) 0 [(0, ar v0), (1, ai v1)] [] h 0 0 QQ
  unfold w_X_image at hw
  refine r_iload_n (j := 1) d_X_image_0 rfl ?_
  refine r_if_lt d_X_image_1 (fun w9 => ?_) (fun w9 => ?_)
  · replace hw := hw.1 w9
    refine r_iconst d_X_image_9 kc_m1 ?_
    exact r_ireturn d_X_image_10.1 rfl (hQ _ _ hw)
  · replace hw := hw.2 w9
    refine r_iload_n (j := 1) d_X_image_4 rfl ?_
    refine r_iconst d_X_image_5 kc_2 ?_
    refine r_icmp_lt d_X_image_6 (fun w9 => ?_) (fun w9 => ?_)
    · replace hw := hw.1 w9
      refine r_aload_n (j := 0) d_X_image_11 rfl ?_
      obtain ⟨q1, hw⟩ := hw
      refine r_getR d_X_image_12 ok_11 (nle rfl) (nle rfl) rfl lf_X_35 q1 ?_
      refine r_iload_n (j := 1) d_X_image_15 rfl ?_
      obtain ⟨q2, hw⟩ := hw
      obtain ⟨q3, hw⟩ := hw
      refine r_aald d_X_image_16 q2 q3 ?_
      refine r_aload_n (j := 0) d_X_image_17 rfl ?_
      refine r_getR d_X_image_18 ok_11 (nle rfl) (nle rfl) rfl lf_X_23 q1 ?_
      obtain ⟨q5, hw⟩ := hw
      refine r_callV (av := [ar (gR h v0 2)]) (rest := []) (ci := 1) d_X_image_21 mk_Co_copyFrom ll_X_122 im_Co_copyFrom se_Co_copyFrom rfl (nle rfl) rfl rfl (nle rfl) q5 (s_Co_copyFrom (by omega) hw (fun h4 hw => ?_))
      show aW none m_X_image (d + 1) 24 [(0, ar v0), (1, ai v1)] [] h4 0 0 QQ
      refine r_aload_n (j := 0) d_X_image_24 rfl ?_
      obtain ⟨q6, hw⟩ := hw
      refine r_getR d_X_image_25 ok_11 (nle rfl) (nle rfl) rfl lf_X_39 q6 ?_
      refine r_iload_n (j := 1) d_X_image_28 rfl ?_
      refine r_iconst d_X_image_29 kc_1 ?_
      obtain ⟨q7, hw⟩ := hw
      obtain ⟨q8, hw⟩ := hw
      refine r_zast d_X_image_30 q7 q8 (Or.inr rfl) ?_
      refine r_aload_n (j := 0) d_X_image_31 rfl ?_
      refine r_getR d_X_image_32 ok_11 (nle rfl) (nle rfl) rfl lf_X_23 q6 ?_
      obtain ⟨q9, hw⟩ := hw
      refine r_getI d_X_image_35 ok_1 (nle rfl) (nle rfl) rfl lf_X_129 q9 ?_
      exact r_ireturn d_X_image_38.1 rfl (hQ _ _ hw)
    · replace hw := hw.2 w9
      refine r_iconst d_X_image_9 kc_m1 ?_
      exact r_ireturn d_X_image_10.1 rfl (hQ _ _ hw)
set_option maxRecDepth 100000 in
set_option maxHeartbeats 4000000 in
theorem s_X_back {d : Nat} (hd : 2 ≤ d) {v0 : Nat} {v1 : Int32} {h : Hp} {Q : Int32 → Hp → Prop} {QQ : Option AV → Hp → Prop} (hw : w_X_back v0 v1 h Q) (hQ : ∀ r9 h9, Q r9 h9 → QQ (some (ai r9)) h9) : aCall m_X_back d [ar v0, ai v1] h 0 0 QQ := by
  obtain ⟨d, rfl⟩ : ∃ d9, d = d9 + 1 := ⟨d - 1, by omega⟩
  refine aCall_in pl_X_back (nle rfl) ?_
  show aW none m_X_back (d + 1) 0 [(0, ar v0), (1, ai v1)] [] h 0 0 QQ
  unfold w_X_back at hw
  refine r_iload_n (j := 1) d_X_back_0 rfl ?_
  refine r_if_lt d_X_back_1 (fun w9 => ?_) (fun w9 => ?_)
  · replace hw := hw.1 w9
    refine r_iconst d_X_back_18 kc_m1 ?_
    exact r_ireturn d_X_back_19.1 rfl (hQ _ _ hw)
  · replace hw := hw.2 w9
    refine r_iload_n (j := 1) d_X_back_4 rfl ?_
    refine r_iconst d_X_back_5 kc_2 ?_
    refine r_icmp_ge d_X_back_6 (fun w9 => ?_) (fun w9 => ?_)
    · replace hw := hw.1 w9
      refine r_iconst d_X_back_18 kc_m1 ?_
      exact r_ireturn d_X_back_19.1 rfl (hQ _ _ hw)
    · replace hw := hw.2 w9
      refine r_aload_n (j := 0) d_X_back_9 rfl ?_
      obtain ⟨q1, hw⟩ := hw
      refine r_getR d_X_back_10 ok_11 (nle rfl) (nle rfl) rfl lf_X_39 q1 ?_
      refine r_iload_n (j := 1) d_X_back_13 rfl ?_
      obtain ⟨q2, hw⟩ := hw
      obtain ⟨q3, hw⟩ := hw
      refine r_zald d_X_back_14 q2 q3 ?_
      refine r_if_ne d_X_back_15 (fun w9 => ?_) (fun w9 => ?_)
      · replace hw := hw.2 w9
        refine r_aload_n (j := 0) d_X_back_20 rfl ?_
        refine r_getR d_X_back_21 ok_11 (nle rfl) (nle rfl) rfl lf_X_23 q1 ?_
        refine r_aload_n (j := 0) d_X_back_24 rfl ?_
        refine r_getR d_X_back_25 ok_11 (nle rfl) (nle rfl) rfl lf_X_35 q1 ?_
        refine r_iload_n (j := 1) d_X_back_28 rfl ?_
        obtain ⟨q4, hw⟩ := hw
        obtain ⟨q5, hw⟩ := hw
        refine r_aald d_X_back_29 q4 q5 ?_
        obtain ⟨q7, hw⟩ := hw
        refine r_callV (av := [ar (gR h (gR h v0 4) (ix v1))]) (rest := []) (ci := 1) d_X_back_30 mk_Co_copyFrom ll_X_122 im_Co_copyFrom se_Co_copyFrom rfl (nle rfl) rfl rfl (nle rfl) q7 (s_Co_copyFrom (by omega) hw (fun h6 hw => ?_))
        show aW none m_X_back (d + 1) 33 [(0, ar v0), (1, ai v1)] [] h6 0 0 QQ
        refine r_aload_n (j := 0) d_X_back_33 rfl ?_
        obtain ⟨q8, hw⟩ := hw
        refine r_getR d_X_back_34 ok_11 (nle rfl) (nle rfl) rfl lf_X_46 q8 ?_
        obtain ⟨q10, hw⟩ := hw
        refine r_callV (av := []) (rest := []) (ci := 0) d_X_back_37 mk_Ac_forget ll_X_125 im_Ac_forget se_Ac_forget rfl (nle rfl) rfl rfl (nle rfl) q10 (s_Ac_forget  hw (fun h9 hw => ?_))
        show aW none m_X_back (d + 1) 40 [(0, ar v0), (1, ai v1)] [] h9 0 0 QQ
        refine r_aload_n (j := 0) d_X_back_40 rfl ?_
        obtain ⟨q11, hw⟩ := hw
        refine r_getR d_X_back_41 ok_11 (nle rfl) (nle rfl) rfl lf_X_23 q11 ?_
        obtain ⟨q12, hw⟩ := hw
        refine r_getI d_X_back_44 ok_1 (nle rfl) (nle rfl) rfl lf_X_129 q12 ?_
        exact r_ireturn d_X_back_47.1 rfl (hQ _ _ hw)
      · replace hw := hw.1 w9
        refine r_iconst d_X_back_18 kc_m1 ?_
        exact r_ireturn d_X_back_19.1 rfl (hQ _ _ hw)
set_option maxRecDepth 100000 in
set_option maxHeartbeats 4000000 in
theorem s_X_about {d : Nat} (hd : 2 ≤ d) {v0 : Nat} {v1 : Int32} {h : Hp} {Q : Int32 → Hp → Prop} {QQ : Option AV → Hp → Prop} (hw : w_X_about v0 v1 h Q) (hQ : ∀ r9 h9, Q r9 h9 → QQ (some (ai r9)) h9) : aCall m_X_about d [ar v0, ai v1] h 0 0 QQ := by
  obtain ⟨d, rfl⟩ : ∃ d9, d = d9 + 1 := ⟨d - 1, by omega⟩
  refine aCall_in pl_X_about (nle rfl) ?_
  show aW none m_X_about (d + 1) 0 [(0, ar v0), (1, ai v1)] [] h 0 0 QQ
  unfold w_X_about at hw
  refine r_iload_n (j := 1) d_X_about_0 rfl ?_
  by_cases o9 : v1.toInt < 0 ∨ 8 < v1.toInt
  · refine r_tabOut d_X_about_1 o9 (by decide) ?_
    replace hw := hw.1 o9
    refine r_iconst d_X_about_124 kc_m1 ?_
    exact r_ireturn d_X_about_125.1 rfl (hQ _ _ hw)
  · have o8 : v1.toInt = 0 ∨ v1.toInt = 1 ∨ v1.toInt = 2 ∨ v1.toInt = 3 ∨ v1.toInt = 4 ∨ v1.toInt = 5 ∨ v1.toInt = 6 ∨ v1.toInt = 7 ∨ v1.toInt = 8 := by omega
    replace hw := hw.2
    rcases o8 with o8 | o8 | o8 | o8 | o8 | o8 | o8 | o8 | o8
    · refine r_tabIn (off := 51) d_X_about_1 (by omega) (by omega) (by rw [o8]; rfl) (by decide) ?_
      replace hw := hw.1 o8
      refine r_aload_n (j := 0) d_X_about_52 rfl ?_
      obtain ⟨q1, hw⟩ := hw
      refine r_getR d_X_about_53 ok_11 (nle rfl) (nle rfl) rfl lf_X_23 q1 ?_
      obtain ⟨q2, hw⟩ := hw
      refine r_getI d_X_about_56 ok_1 (nle rfl) (nle rfl) rfl lf_X_352 q2 ?_
      exact r_ireturn d_X_about_59.1 rfl (hQ _ _ hw)
    · refine r_tabIn (off := 59) d_X_about_1 (by omega) (by omega) (by rw [o8]; rfl) (by decide) ?_
      replace hw := hw.2.1 o8
      refine r_aload_n (j := 0) d_X_about_60 rfl ?_
      obtain ⟨q3, hw⟩ := hw
      refine r_getR d_X_about_61 ok_11 (nle rfl) (nle rfl) rfl lf_X_23 q3 ?_
      obtain ⟨q4, hw⟩ := hw
      refine r_getI d_X_about_64 ok_1 (nle rfl) (nle rfl) rfl lf_X_129 q4 ?_
      exact r_ireturn d_X_about_67.1 rfl (hQ _ _ hw)
    · refine r_tabIn (off := 67) d_X_about_1 (by omega) (by omega) (by rw [o8]; rfl) (by decide) ?_
      replace hw := hw.2.2.1 o8
      refine r_aload_n (j := 0) d_X_about_68 rfl ?_
      obtain ⟨q5, hw⟩ := hw
      refine r_getR d_X_about_69 ok_11 (nle rfl) (nle rfl) rfl lf_X_23 q5 ?_
      obtain ⟨q8, hw⟩ := hw
      refine r_callV (av := []) (rest := []) (ci := 1) d_X_about_72 mk_Co_steps ll_X_383 im_Co_steps se_Co_steps rfl (nle rfl) rfl rfl (nle rfl) q8 (s_Co_steps  hw (fun r7 h6 hw => ?_))
      show aW none m_X_about (d + 1) 75 [(0, ar v0), (1, ai v1)] [ai r7] h6 0 0 QQ
      exact r_ireturn d_X_about_75.1 rfl (hQ _ _ hw)
    · refine r_tabIn (off := 75) d_X_about_1 (by omega) (by omega) (by rw [o8]; rfl) (by decide) ?_
      replace hw := hw.2.2.2.1 o8
      refine r_aload_n (j := 0) d_X_about_76 rfl ?_
      obtain ⟨q9, hw⟩ := hw
      refine r_getR d_X_about_77 ok_11 (nle rfl) (nle rfl) rfl lf_X_23 q9 ?_
      obtain ⟨q12, hw⟩ := hw
      refine r_callV (av := []) (rest := []) (ci := 1) d_X_about_80 mk_Co_greatestNumber ll_X_386 im_Co_greatestNumber se_Co_greatestNumber rfl (nle rfl) rfl rfl (nle rfl) q12 (s_Co_greatestNumber (by omega) hw (fun r11 h10 hw => ?_))
      show aW none m_X_about (d + 1) 83 [(0, ar v0), (1, ai v1)] [ai r11] h10 0 0 QQ
      exact r_ireturn d_X_about_83.1 rfl (hQ _ _ hw)
    · refine r_tabIn (off := 83) d_X_about_1 (by omega) (by omega) (by rw [o8]; rfl) (by decide) ?_
      replace hw := hw.2.2.2.2.1 o8
      refine r_aload_n (j := 0) d_X_about_84 rfl ?_
      obtain ⟨q13, hw⟩ := hw
      refine r_getR d_X_about_85 ok_11 (nle rfl) (nle rfl) rfl lf_X_46 q13 ?_
      obtain ⟨q14, hw⟩ := hw
      refine r_getI d_X_about_88 ok_0 (nle rfl) (nle rfl) rfl lf_X_389 q14 ?_
      exact r_ireturn d_X_about_91.1 rfl (hQ _ _ hw)
    · refine r_tabIn (off := 91) d_X_about_1 (by omega) (by omega) (by rw [o8]; rfl) (by decide) ?_
      replace hw := hw.2.2.2.2.2.1 o8
      refine r_aload_n (j := 0) d_X_about_92 rfl ?_
      obtain ⟨q15, hw⟩ := hw
      refine r_getR d_X_about_93 ok_11 (nle rfl) (nle rfl) rfl lf_X_46 q15 ?_
      obtain ⟨q16, hw⟩ := hw
      refine r_getI d_X_about_96 ok_0 (nle rfl) (nle rfl) rfl lf_X_392 q16 ?_
      exact r_ireturn d_X_about_99.1 rfl (hQ _ _ hw)
    · refine r_tabIn (off := 99) d_X_about_1 (by omega) (by omega) (by rw [o8]; rfl) (by decide) ?_
      replace hw := hw.2.2.2.2.2.2.1 o8
      refine r_aload_n (j := 0) d_X_about_100 rfl ?_
      obtain ⟨q17, hw⟩ := hw
      refine r_getR d_X_about_101 ok_11 (nle rfl) (nle rfl) rfl lf_X_99 q17 ?_
      obtain ⟨q18, hw⟩ := hw
      refine r_getI d_X_about_104 ok_5 (nle rfl) (nle rfl) rfl lf_X_395 q18 ?_
      exact r_ireturn d_X_about_107.1 rfl (hQ _ _ hw)
    · refine r_tabIn (off := 107) d_X_about_1 (by omega) (by omega) (by rw [o8]; rfl) (by decide) ?_
      replace hw := hw.2.2.2.2.2.2.2.1 o8
      refine r_aload_n (j := 0) d_X_about_108 rfl ?_
      obtain ⟨q19, hw⟩ := hw
      refine r_getR d_X_about_109 ok_11 (nle rfl) (nle rfl) rfl lf_X_99 q19 ?_
      obtain ⟨q20, hw⟩ := hw
      refine r_getI d_X_about_112 ok_5 (nle rfl) (nle rfl) rfl lf_X_362 q20 ?_
      exact r_ireturn d_X_about_115.1 rfl (hQ _ _ hw)
    · refine r_tabIn (off := 115) d_X_about_1 (by omega) (by omega) (by rw [o8]; rfl) (by decide) ?_
      replace hw := hw.2.2.2.2.2.2.2.2 o8
      refine r_aload_n (j := 0) d_X_about_116 rfl ?_
      obtain ⟨q21, hw⟩ := hw
      refine r_getR d_X_about_117 ok_11 (nle rfl) (nle rfl) rfl lf_X_10 q21 ?_
      obtain ⟨q22, hw⟩ := hw
      refine r_getI d_X_about_120 ok_10 (nle rfl) (nle rfl) rfl lf_X_107 q22 ?_
      exact r_ireturn d_X_about_123.1 rfl (hQ _ _ hw)
set_option maxRecDepth 100000 in
set_option maxHeartbeats 4000000 in
theorem s_M_begins_L12 {d : Nat} {Q : Hp → Prop} {QQ : Option AV → Hp → Prop} (hQ : ∀ h9, Q h9 → QQ none h9) {v0 : Nat} : ∀ (n : Nat) (v1 : Int32) (h : Hp), w_M_begins_L12 Q  v0 n v1 h → aW none m_M_begins d 12 [(0, ar v0), (1, ai v1)] [] h 0 0 QQ := by
  intro n
  induction n with
  | zero => intro v1 h hw; exact hw.elim
  | succ n ih =>
    intro v1 h hw
    unfold w_M_begins_L12 at hw
    refine r_iload_n (j := 1) d_M_begins_12 rfl ?_
    refine r_bipush d_M_begins_13 kb_44 ?_
    refine r_icmp_ge d_M_begins_15 (fun w9 => ?_) (fun w9 => ?_)
    · replace hw := hw.1 w9
      refine r_aload_n (j := 0) d_M_begins_31 rfl ?_
      obtain ⟨q2, hw⟩ := hw
      refine r_getR d_M_begins_32 ok_12 (nle rfl) (nle rfl) rfl lf_M_20 q2 ?_
      refine r_bipush d_M_begins_35 kb_35 ?_
      refine r_bipush d_M_begins_37 kb_8 ?_
      obtain ⟨q3, hw⟩ := hw
      obtain ⟨q4, hw⟩ := hw
      refine r_iast d_M_begins_39 q3 q4 ?_
      refine r_aload_n (j := 0) d_M_begins_40 rfl ?_
      refine r_iconst d_M_begins_41 kc_0 ?_
      refine r_putZ d_M_begins_42 ok_12 (nle rfl) (nle rfl) rfl lf_M_205 rfl q2 (Or.inl rfl) ?_
      refine r_aload_n (j := 0) d_M_begins_45 rfl ?_
      refine r_iconst d_M_begins_46 kc_0 ?_
      refine r_putZ d_M_begins_47 ok_12 (nle rfl) (nle rfl) rfl lf_M_209 rfl q2 (Or.inl rfl) ?_
      refine r_aload_n (j := 0) d_M_begins_50 rfl ?_
      refine r_iconst d_M_begins_51 kc_0 ?_
      refine r_putZ d_M_begins_52 ok_12 (nle rfl) (nle rfl) rfl lf_M_212 rfl q2 (Or.inl rfl) ?_
      exact r_return d_M_begins_55.1 rfl (hQ _ hw)
    · replace hw := hw.2 w9
      refine r_aload_n (j := 0) d_M_begins_18 rfl ?_
      obtain ⟨q5, hw⟩ := hw
      refine r_getR d_M_begins_19 ok_12 (nle rfl) (nle rfl) rfl lf_M_20 q5 ?_
      refine r_iload_n (j := 1) d_M_begins_22 rfl ?_
      refine r_iconst d_M_begins_23 kc_0 ?_
      obtain ⟨q6, hw⟩ := hw
      obtain ⟨q7, hw⟩ := hw
      refine r_iast d_M_begins_24 q6 q7 ?_
      refine r_iinc (j := 1) (ls2 := [(1, ai (v1 + (1 : Int32))), (0, ar v0)]) d_M_begins_25 rfl (congrArg (HAdd.hAdd v1) kc_1) (nle rfl) rfl ?_
      refine r_goto d_M_begins_28 ?_
      refine r_pick (ls2 := [(0, ar v0), (1, ai (v1 + (1 : Int32)))]) [1, 0] rfl ?_
      exact ih _ _ hw
set_option maxRecDepth 100000 in
set_option maxHeartbeats 4000000 in
theorem s_M_begins {d : Nat} {v0 : Nat} {h : Hp} {Q : Hp → Prop} {QQ : Option AV → Hp → Prop} (hw : w_M_begins v0 h Q) (hQ : ∀ h9, Q h9 → QQ none h9) : aCall m_M_begins d [ar v0] h 0 0 QQ := by
  refine aCall_in pl_M_begins (nle rfl) ?_
  show aW none m_M_begins d 0 [(0, ar v0)] [] h 0 0 QQ
  unfold w_M_begins at hw
  refine r_aload_n (j := 0) d_M_begins_0 rfl ?_
  refine r_iconst d_M_begins_1 kc_1 ?_
  obtain ⟨q1, hw⟩ := hw
  refine r_putI d_M_begins_2 ok_12 (nle rfl) (nle rfl) rfl lf_M_199 rfl q1 ?_
  refine r_aload_n (j := 0) d_M_begins_5 rfl ?_
  refine r_iconst d_M_begins_6 kc_0 ?_
  refine r_putI d_M_begins_7 ok_12 (nle rfl) (nle rfl) rfl lf_M_202 rfl q1 ?_
  refine r_iconst d_M_begins_10 kc_0 ?_
  refine r_istore_n (ls2 := [(1, ai (0 : Int32)), (0, ar v0)]) d_M_begins_11 (nle rfl) rfl ?_
  obtain ⟨n8, hw⟩ := hw
  refine r_pick (ls2 := [(0, ar v0), (1, ai (0 : Int32))]) [1, 0] rfl ?_
  exact s_M_begins_L12 hQ  n8 _ _ hw
set_option maxRecDepth 100000 in
set_option maxHeartbeats 4000000 in
theorem s_M_takesOver_L76 {d : Nat} {Q : Hp → Prop} {QQ : Option AV → Hp → Prop} (hQ : ∀ h9, Q h9 → QQ none h9) {v0 : Nat} : ∀ (n : Nat) (v1 : Int32) (h : Hp), w_M_takesOver_L76 Q  v0 n v1 h → aW none m_M_takesOver d 76 [(0, ar v0), (1, ai v1)] [] h 0 0 QQ := by
  intro n
  induction n with
  | zero => intro v1 h hw; exact hw.elim
  | succ n ih =>
    intro v1 h hw
    unfold w_M_takesOver_L76 at hw
    refine r_iload_n (j := 1) d_M_takesOver_76 rfl ?_
    refine r_iconst d_M_takesOver_77 kc_2 ?_
    refine r_icmp_ge d_M_takesOver_78 (fun w9 => ?_) (fun w9 => ?_)
    · replace hw := hw.1 w9
      exact r_return d_M_takesOver_94.1 rfl (hQ _ hw)
    · replace hw := hw.2 w9
      refine r_aload_n (j := 0) d_M_takesOver_81 rfl ?_
      obtain ⟨q3, hw⟩ := hw
      refine r_getR d_M_takesOver_82 ok_12 (nle rfl) (nle rfl) rfl lf_M_132 q3 ?_
      refine r_iload_n (j := 1) d_M_takesOver_85 rfl ?_
      refine r_iconst d_M_takesOver_86 kc_0 ?_
      obtain ⟨q4, hw⟩ := hw
      obtain ⟨q5, hw⟩ := hw
      refine r_zast d_M_takesOver_87 q4 q5 (Or.inl rfl) ?_
      refine r_iinc (j := 1) (ls2 := [(1, ai (v1 + (1 : Int32))), (0, ar v0)]) d_M_takesOver_88 rfl (congrArg (HAdd.hAdd v1) kc_1) (nle rfl) rfl ?_
      refine r_goto d_M_takesOver_91 ?_
      refine r_pick (ls2 := [(0, ar v0), (1, ai (v1 + (1 : Int32)))]) [1, 0] rfl ?_
      exact ih _ _ hw
set_option maxRecDepth 100000 in
set_option maxHeartbeats 4000000 in
theorem s_M_takesOver_L18 {d : Nat} {Q : Hp → Prop} {QQ : Option AV → Hp → Prop} (hQ : ∀ h9, Q h9 → QQ none h9) {v0 : Nat} : ∀ (n : Nat) (v1 : Int32) (h : Hp), w_M_takesOver_L18 Q  v0 n v1 h → aW none m_M_takesOver d 18 [(0, ar v0), (1, ai v1)] [] h 0 0 QQ := by
  intro n
  induction n with
  | zero => intro v1 h hw; exact hw.elim
  | succ n ih =>
    intro v1 h hw
    unfold w_M_takesOver_L18 at hw
    refine r_iload_n (j := 1) d_M_takesOver_18 rfl ?_
    refine r_bipush d_M_takesOver_19 kb_44 ?_
    refine r_icmp_ge d_M_takesOver_21 (fun w9 => ?_) (fun w9 => ?_)
    · replace hw := hw.1 w9
      refine r_aload_n (j := 0) d_M_takesOver_54 rfl ?_
      refine r_iconst d_M_takesOver_55 kc_0 ?_
      obtain ⟨q2, hw⟩ := hw
      refine r_putI d_M_takesOver_56 ok_12 (nle rfl) (nle rfl) rfl lf_M_250 rfl q2 ?_
      refine r_aload_n (j := 0) d_M_takesOver_59 rfl ?_
      refine r_iconst d_M_takesOver_60 kc_0 ?_
      refine r_putI d_M_takesOver_61 ok_12 (nle rfl) (nle rfl) rfl lf_M_253 rfl q2 ?_
      refine r_aload_n (j := 0) d_M_takesOver_64 rfl ?_
      refine r_iconst d_M_takesOver_65 kc_0 ?_
      refine r_putI d_M_takesOver_66 ok_12 (nle rfl) (nle rfl) rfl lf_M_256 rfl q2 ?_
      refine r_aload_n (j := 0) d_M_takesOver_69 rfl ?_
      refine r_iconst d_M_takesOver_70 kc_0 ?_
      refine r_putZ d_M_takesOver_71 ok_12 (nle rfl) (nle rfl) rfl lf_M_259 rfl q2 (Or.inl rfl) ?_
      refine r_iconst d_M_takesOver_74 kc_0 ?_
      refine r_istore_n (ls2 := [(1, ai (0 : Int32)), (0, ar v0)]) d_M_takesOver_75 (nle rfl) rfl ?_
      obtain ⟨n6, hw⟩ := hw
      refine r_pick (ls2 := [(0, ar v0), (1, ai (0 : Int32))]) [1, 0] rfl ?_
      exact s_M_takesOver_L76 hQ  n6 _ _ hw
    · replace hw := hw.2 w9
      refine r_aload_n (j := 0) d_M_takesOver_24 rfl ?_
      obtain ⟨q7, hw⟩ := hw
      refine r_getR d_M_takesOver_25 ok_12 (nle rfl) (nle rfl) rfl lf_M_23 q7 ?_
      refine r_iload_n (j := 1) d_M_takesOver_28 rfl ?_
      refine r_aload_n (j := 0) d_M_takesOver_29 rfl ?_
      refine r_getR d_M_takesOver_30 ok_12 (nle rfl) (nle rfl) rfl lf_M_20 q7 ?_
      refine r_iload_n (j := 1) d_M_takesOver_33 rfl ?_
      obtain ⟨q8, hw⟩ := hw
      obtain ⟨q9, hw⟩ := hw
      refine r_iald d_M_takesOver_34 q8 q9 ?_
      obtain ⟨q10, hw⟩ := hw
      obtain ⟨q11, hw⟩ := hw
      refine r_iast d_M_takesOver_35 q10 q11 ?_
      refine r_aload_n (j := 0) d_M_takesOver_36 rfl ?_
      refine r_getR d_M_takesOver_37 ok_12 (nle rfl) (nle rfl) rfl lf_M_30 q7 ?_
      refine r_iload_n (j := 1) d_M_takesOver_40 rfl ?_
      refine r_aload_n (j := 0) d_M_takesOver_41 rfl ?_
      refine r_getR d_M_takesOver_42 ok_12 (nle rfl) (nle rfl) rfl lf_M_20 q7 ?_
      refine r_iload_n (j := 1) d_M_takesOver_45 rfl ?_
      refine r_iald d_M_takesOver_46 q8 q9 ?_
      obtain ⟨q12, hw⟩ := hw
      obtain ⟨q13, hw⟩ := hw
      refine r_iast d_M_takesOver_47 q12 q13 ?_
      refine r_iinc (j := 1) (ls2 := [(1, ai (v1 + (1 : Int32))), (0, ar v0)]) d_M_takesOver_48 rfl (congrArg (HAdd.hAdd v1) kc_1) (nle rfl) rfl ?_
      refine r_goto d_M_takesOver_51 ?_
      refine r_pick (ls2 := [(0, ar v0), (1, ai (v1 + (1 : Int32)))]) [1, 0] rfl ?_
      exact ih _ _ hw
set_option maxRecDepth 100000 in
set_option maxHeartbeats 4000000 in
theorem s_M_takesOver {d : Nat} {v0 : Nat} {h : Hp} {Q : Hp → Prop} {QQ : Option AV → Hp → Prop} (hw : w_M_takesOver v0 h Q) (hQ : ∀ h9, Q h9 → QQ none h9) : aCall m_M_takesOver d [ar v0] h 0 0 QQ := by
  refine aCall_in pl_M_takesOver (nle rfl) ?_
  show aW none m_M_takesOver d 0 [(0, ar v0)] [] h 0 0 QQ
  unfold w_M_takesOver at hw
  refine r_aload_n (j := 0) d_M_takesOver_0 rfl ?_
  refine r_aload_n (j := 0) d_M_takesOver_1 rfl ?_
  obtain ⟨q1, hw⟩ := hw
  refine r_getI d_M_takesOver_2 ok_12 (nle rfl) (nle rfl) rfl lf_M_199 q1 ?_
  refine r_putI d_M_takesOver_5 ok_12 (nle rfl) (nle rfl) rfl lf_M_244 rfl q1 ?_
  refine r_aload_n (j := 0) d_M_takesOver_8 rfl ?_
  refine r_aload_n (j := 0) d_M_takesOver_9 rfl ?_
  refine r_getI d_M_takesOver_10 ok_12 (nle rfl) (nle rfl) rfl lf_M_202 q1 ?_
  refine r_putI d_M_takesOver_13 ok_12 (nle rfl) (nle rfl) rfl lf_M_247 rfl q1 ?_
  refine r_iconst d_M_takesOver_16 kc_0 ?_
  refine r_istore_n (ls2 := [(1, ai (0 : Int32)), (0, ar v0)]) d_M_takesOver_17 (nle rfl) rfl ?_
  obtain ⟨n14, hw⟩ := hw
  refine r_pick (ls2 := [(0, ar v0), (1, ai (0 : Int32))]) [1, 0] rfl ?_
  exact s_M_takesOver_L18 hQ  n14 _ _ hw
set_option maxRecDepth 100000 in
set_option maxHeartbeats 4000000 in
theorem s_M_init {d : Nat} (hd : 1 ≤ d) {v0 : Nat} {bc bs : Nat} {h : Hp} {Q : Hp → Prop} {QQ : Option AV → Hp → Prop} (hw : w_M_init bc bs v0 h Q) (hQ : ∀ h9, Q h9 → QQ none h9) : aCall m_M_init d [ar v0] h bc bs QQ := by
  obtain ⟨d, rfl⟩ : ∃ d9, d = d9 + 1 := ⟨d - 1, by omega⟩
  refine aCall_in pl_M_init (nle rfl) ?_
  show aW none m_M_init (d + 1) 0 [(0, ar v0)] [] h bc bs QQ
  unfold w_M_init at hw
  refine r_aload_n (j := 0) d_M_init_0 rfl ?_
  obtain ⟨q1, hw⟩ := hw
  refine r_objInit d_M_init_1 ll_M_1 oi_1 oi_2 (nle rfl) q1 ?_
  refine r_aload_n (j := 0) d_M_init_4 rfl ?_
  refine r_sipush d_M_init_5 ks_700 ?_
  obtain ⟨q2, hw⟩ := hw
  obtain ⟨b3, t4, u8, u9, u6, u7, hw⟩ := hw
  subst u8 u9
  refine r_newI d_M_init_8 ac_I u6 rfl u7 (refB_r q2 refB_n) (refL_r q2 refL_n) ?_
  generalize e8 : nw h 20 (ix (700 : Int32)) = h5 at hw ⊢
  generalize e7 : gX h = a6 at hw ⊢
  replace hw := hw a6 h5 e7.symm e8.symm
  obtain ⟨q7, hw⟩ := hw
  obtain ⟨q8, hw⟩ := hw
  refine r_putFR d_M_init_10 ok_12 (nle rfl) (nle rfl) rfl lf_M_7 rfl rfl rfl q7 q8 ?_
  refine r_aload_n (j := 0) d_M_init_13 rfl ?_
  refine r_iconst d_M_init_14 kc_m1 ?_
  refine r_putI d_M_init_15 ok_12 (nle rfl) (nle rfl) rfl lf_M_13 rfl q7 ?_
  refine r_aload_n (j := 0) d_M_init_18 rfl ?_
  refine r_iconst d_M_init_19 kc_m1 ?_
  refine r_putI d_M_init_20 ok_12 (nle rfl) (nle rfl) rfl lf_M_17 rfl q7 ?_
  refine r_aload_n (j := 0) d_M_init_23 rfl ?_
  refine r_bipush d_M_init_24 kb_44 ?_
  obtain ⟨q9, hw⟩ := hw
  obtain ⟨b10, t11, u8, u9, u6, u7, hw⟩ := hw
  subst u8 u9
  refine r_newI d_M_init_26 ac_I u6 rfl u7 (refB_r q9 refB_n) (refL_r q9 refL_n) ?_
  generalize e8 : nw (sI (sI (sR h5 v0 0 a6) v0 8 (-1 : Int32)) v0 10 (-1 : Int32)) 20 (ix (44 : Int32)) = h12 at hw ⊢
  generalize e7 : gX (sI (sI (sR h5 v0 0 a6) v0 8 (-1 : Int32)) v0 10 (-1 : Int32)) = a13 at hw ⊢
  replace hw := hw a13 h12 e7.symm e8.symm
  obtain ⟨q14, hw⟩ := hw
  obtain ⟨q15, hw⟩ := hw
  refine r_putFR d_M_init_28 ok_12 (nle rfl) (nle rfl) rfl lf_M_20 rfl rfl rfl q14 q15 ?_
  refine r_aload_n (j := 0) d_M_init_31 rfl ?_
  refine r_bipush d_M_init_32 kb_44 ?_
  obtain ⟨q16, hw⟩ := hw
  obtain ⟨b17, t18, u8, u9, u6, u7, hw⟩ := hw
  subst u8 u9
  refine r_newI d_M_init_34 ac_I u6 rfl u7 (refB_r q16 refB_n) (refL_r q16 refL_n) ?_
  generalize e8 : nw (sR h12 v0 12 a13) 20 (ix (44 : Int32)) = h19 at hw ⊢
  generalize e7 : gX (sR h12 v0 12 a13) = a20 at hw ⊢
  replace hw := hw a20 h19 e7.symm e8.symm
  obtain ⟨q21, hw⟩ := hw
  obtain ⟨q22, hw⟩ := hw
  refine r_putFR d_M_init_36 ok_12 (nle rfl) (nle rfl) rfl lf_M_23 rfl rfl rfl q21 q22 ?_
  refine r_aload_n (j := 0) d_M_init_39 rfl ?_
  refine r_bipush d_M_init_40 kb_8 ?_
  obtain ⟨q23, hw⟩ := hw
  obtain ⟨b24, t25, u8, u9, u6, u7, hw⟩ := hw
  subst u8 u9
  refine r_newL d_M_init_42 ac_J u6 rfl u7 (refB_r q23 refB_n) (refL_r q23 refL_n) ?_
  generalize e8 : nw (sR h19 v0 13 a20) 21 (ix (8 : Int32)) = h26 at hw ⊢
  generalize e7 : gX (sR h19 v0 13 a20) = a27 at hw ⊢
  replace hw := hw a27 h26 e7.symm e8.symm
  obtain ⟨q28, hw⟩ := hw
  obtain ⟨q29, hw⟩ := hw
  refine r_putFR d_M_init_44 ok_12 (nle rfl) (nle rfl) rfl lf_M_26 rfl rfl rfl q28 q29 ?_
  refine r_aload_n (j := 0) d_M_init_47 rfl ?_
  refine r_bipush d_M_init_48 kb_44 ?_
  obtain ⟨q30, hw⟩ := hw
  obtain ⟨b31, t32, u8, u9, u6, u7, hw⟩ := hw
  subst u8 u9
  refine r_newI d_M_init_50 ac_I u6 rfl u7 (refB_r q30 refB_n) (refL_r q30 refL_n) ?_
  generalize e8 : nw (sR h26 v0 14 a27) 20 (ix (44 : Int32)) = h33 at hw ⊢
  generalize e7 : gX (sR h26 v0 14 a27) = a34 at hw ⊢
  replace hw := hw a34 h33 e7.symm e8.symm
  obtain ⟨q35, hw⟩ := hw
  obtain ⟨q36, hw⟩ := hw
  refine r_putFR d_M_init_52 ok_12 (nle rfl) (nle rfl) rfl lf_M_30 rfl rfl rfl q35 q36 ?_
  refine r_aload_n (j := 0) d_M_init_55 rfl ?_
  refine r_sipush d_M_init_56 ks_880 ?_
  obtain ⟨q37, hw⟩ := hw
  obtain ⟨b38, t39, u8, u9, u6, u7, hw⟩ := hw
  subst u8 u9
  refine r_newI d_M_init_59 ac_I u6 rfl u7 (refB_r q37 refB_n) (refL_r q37 refL_n) ?_
  generalize e8 : nw (sR h33 v0 22 a34) 20 (ix (880 : Int32)) = h40 at hw ⊢
  generalize e7 : gX (sR h33 v0 22 a34) = a41 at hw ⊢
  replace hw := hw a41 h40 e7.symm e8.symm
  obtain ⟨q42, hw⟩ := hw
  obtain ⟨q43, hw⟩ := hw
  refine r_putFR d_M_init_61 ok_12 (nle rfl) (nle rfl) rfl lf_M_33 rfl rfl rfl q42 q43 ?_
  refine r_aload_n (j := 0) d_M_init_64 rfl ?_
  refine r_bipush d_M_init_65 kb_8 ?_
  obtain ⟨q44, hw⟩ := hw
  obtain ⟨b45, t46, u8, u9, u6, u7, hw⟩ := hw
  subst u8 u9
  refine r_newI d_M_init_67 ac_I u6 rfl u7 (refB_r q44 refB_n) (refL_r q44 refL_n) ?_
  generalize e8 : nw (sR h40 v0 23 a41) 20 (ix (8 : Int32)) = h47 at hw ⊢
  generalize e7 : gX (sR h40 v0 23 a41) = a48 at hw ⊢
  replace hw := hw a48 h47 e7.symm e8.symm
  obtain ⟨q49, hw⟩ := hw
  obtain ⟨q50, hw⟩ := hw
  refine r_putFR d_M_init_69 ok_12 (nle rfl) (nle rfl) rfl lf_M_36 rfl rfl rfl q49 q50 ?_
  refine r_aload_n (j := 0) d_M_init_72 rfl ?_
  refine r_bipush d_M_init_73 kb_8 ?_
  obtain ⟨q51, hw⟩ := hw
  obtain ⟨b52, t53, u8, u9, u6, u7, hw⟩ := hw
  subst u8 u9
  refine r_newI d_M_init_75 ac_I u6 rfl u7 (refB_r q51 refB_n) (refL_r q51 refL_n) ?_
  generalize e8 : nw (sR h47 v0 26 a48) 20 (ix (8 : Int32)) = h54 at hw ⊢
  generalize e7 : gX (sR h47 v0 26 a48) = a55 at hw ⊢
  replace hw := hw a55 h54 e7.symm e8.symm
  obtain ⟨q56, hw⟩ := hw
  obtain ⟨q57, hw⟩ := hw
  refine r_putFR d_M_init_77 ok_12 (nle rfl) (nle rfl) rfl lf_M_39 rfl rfl rfl q56 q57 ?_
  refine r_aload_n (j := 0) d_M_init_80 rfl ?_
  refine r_sipush d_M_init_81 ks_6561 ?_
  obtain ⟨q58, hw⟩ := hw
  obtain ⟨b59, t60, u8, u9, u6, u7, hw⟩ := hw
  subst u8 u9
  refine r_newI d_M_init_84 ac_I u6 rfl u7 (refB_r q58 refB_n) (refL_r q58 refL_n) ?_
  generalize e8 : nw (sR h54 v0 27 a55) 20 (ix (6561 : Int32)) = h61 at hw ⊢
  generalize e7 : gX (sR h54 v0 27 a55) = a62 at hw ⊢
  replace hw := hw a62 h61 e7.symm e8.symm
  obtain ⟨q63, hw⟩ := hw
  obtain ⟨q64, hw⟩ := hw
  refine r_putFR d_M_init_86 ok_12 (nle rfl) (nle rfl) rfl lf_M_42 rfl rfl rfl q63 q64 ?_
  refine r_aload_n (j := 0) d_M_init_89 rfl ?_
  refine r_bipush d_M_init_90 kb_9 ?_
  obtain ⟨q65, hw⟩ := hw
  obtain ⟨b66, t67, u8, u9, u6, u7, hw⟩ := hw
  subst u8 u9
  refine r_newI d_M_init_92 ac_I u6 rfl u7 (refB_r q65 refB_n) (refL_r q65 refL_n) ?_
  generalize e8 : nw (sR h61 v0 30 a62) 20 (ix (9 : Int32)) = h68 at hw ⊢
  generalize e7 : gX (sR h61 v0 30 a62) = a69 at hw ⊢
  replace hw := hw a69 h68 e7.symm e8.symm
  obtain ⟨q70, hw⟩ := hw
  obtain ⟨q71, hw⟩ := hw
  refine r_putFR d_M_init_94 ok_12 (nle rfl) (nle rfl) rfl lf_M_45 rfl rfl rfl q70 q71 ?_
  refine r_aload_n (j := 0) d_M_init_97 rfl ?_
  refine r_iconst d_M_init_98 kc_3 ?_
  obtain ⟨q72, hw⟩ := hw
  obtain ⟨b73, t74, u8, u9, u6, u7, hw⟩ := hw
  subst u8 u9
  refine r_newI d_M_init_99 ac_I u6 rfl u7 (refB_r q72 refB_n) (refL_r q72 refL_n) ?_
  generalize e8 : nw (sR h68 v0 31 a69) 20 (ix (3 : Int32)) = h75 at hw ⊢
  generalize e7 : gX (sR h68 v0 31 a69) = a76 at hw ⊢
  replace hw := hw a76 h75 e7.symm e8.symm
  obtain ⟨q77, hw⟩ := hw
  obtain ⟨q78, hw⟩ := hw
  refine r_putFR d_M_init_101 ok_12 (nle rfl) (nle rfl) rfl lf_M_48 rfl rfl rfl q77 q78 ?_
  refine r_aload_n (j := 0) d_M_init_104 rfl ?_
  refine r_ldc d_M_init_105 lc_M_51 ?_
  obtain ⟨q79, hw⟩ := hw
  obtain ⟨b80, t81, u8, u9, u6, u7, hw⟩ := hw
  subst u8 u9
  refine r_newI d_M_init_107 ac_I u6 rfl u7 (refB_r q79 refB_n) (refL_r q79 refL_n) ?_
  generalize e8 : nw (sR h75 v0 32 a76) 20 (ix (126000 : Int32)) = h82 at hw ⊢
  generalize e7 : gX (sR h75 v0 32 a76) = a83 at hw ⊢
  replace hw := hw a83 h82 e7.symm e8.symm
  obtain ⟨q84, hw⟩ := hw
  obtain ⟨q85, hw⟩ := hw
  refine r_putFR d_M_init_109 ok_12 (nle rfl) (nle rfl) rfl lf_M_52 rfl rfl rfl q84 q85 ?_
  refine r_aload_n (j := 0) d_M_init_112 rfl ?_
  refine r_ldc d_M_init_113 lc_M_51 ?_
  obtain ⟨q86, hw⟩ := hw
  obtain ⟨b87, t88, u8, u9, u6, u7, hw⟩ := hw
  subst u8 u9
  refine r_newI d_M_init_115 ac_I u6 rfl u7 (refB_r q86 refB_n) (refL_r q86 refL_n) ?_
  generalize e8 : nw (sR h82 v0 33 a83) 20 (ix (126000 : Int32)) = h89 at hw ⊢
  generalize e7 : gX (sR h82 v0 33 a83) = a90 at hw ⊢
  replace hw := hw a90 h89 e7.symm e8.symm
  obtain ⟨q91, hw⟩ := hw
  obtain ⟨q92, hw⟩ := hw
  refine r_putFR d_M_init_117 ok_12 (nle rfl) (nle rfl) rfl lf_M_55 rfl rfl rfl q91 q92 ?_
  refine r_aload_n (j := 0) d_M_init_120 rfl ?_
  refine r_bipush d_M_init_121 kb_15 ?_
  obtain ⟨q93, hw⟩ := hw
  obtain ⟨b94, t95, u8, u9, u6, u7, hw⟩ := hw
  subst u8 u9
  refine r_newI d_M_init_123 ac_I u6 rfl u7 (refB_r q93 refB_n) (refL_r q93 refL_n) ?_
  generalize e8 : nw (sR h89 v0 34 a90) 20 (ix (15 : Int32)) = h96 at hw ⊢
  generalize e7 : gX (sR h89 v0 34 a90) = a97 at hw ⊢
  replace hw := hw a97 h96 e7.symm e8.symm
  obtain ⟨q98, hw⟩ := hw
  obtain ⟨q99, hw⟩ := hw
  refine r_putFR d_M_init_125 ok_12 (nle rfl) (nle rfl) rfl lf_M_58 rfl rfl rfl q98 q99 ?_
  refine r_aload_n (j := 0) d_M_init_128 rfl ?_
  refine r_ldc d_M_init_129 lc_M_61 ?_
  obtain ⟨q100, hw⟩ := hw
  obtain ⟨b101, t102, u8, u9, u6, u7, hw⟩ := hw
  subst u8 u9
  refine r_newI d_M_init_131 ac_I u6 rfl u7 (refB_r q100 refB_n) (refL_r q100 refL_n) ?_
  generalize e8 : nw (sR h96 v0 35 a97) 20 (ix (262144 : Int32)) = h103 at hw ⊢
  generalize e7 : gX (sR h96 v0 35 a97) = a104 at hw ⊢
  replace hw := hw a104 h103 e7.symm e8.symm
  obtain ⟨q105, hw⟩ := hw
  obtain ⟨q106, hw⟩ := hw
  refine r_putFR d_M_init_133 ok_12 (nle rfl) (nle rfl) rfl lf_M_62 rfl rfl rfl q105 q106 ?_
  refine r_aload_n (j := 0) d_M_init_136 rfl ?_
  refine r_ldc d_M_init_137 lc_M_51 ?_
  obtain ⟨q107, hw⟩ := hw
  obtain ⟨b108, t109, u8, u9, u6, u7, hw⟩ := hw
  subst u8 u9
  refine r_newL d_M_init_139 ac_J u6 rfl u7 (refB_r q107 refB_n) (refL_r q107 refL_n) ?_
  generalize e8 : nw (sR h103 v0 36 a104) 21 (ix (126000 : Int32)) = h110 at hw ⊢
  generalize e7 : gX (sR h103 v0 36 a104) = a111 at hw ⊢
  replace hw := hw a111 h110 e7.symm e8.symm
  obtain ⟨q112, hw⟩ := hw
  obtain ⟨q113, hw⟩ := hw
  refine r_putFR d_M_init_141 ok_12 (nle rfl) (nle rfl) rfl lf_M_65 rfl rfl rfl q112 q113 ?_
  refine r_aload_n (j := 0) d_M_init_144 rfl ?_
  refine r_sipush d_M_init_145 ks_6000 ?_
  obtain ⟨q114, hw⟩ := hw
  obtain ⟨b115, t116, u8, u9, u6, u7, hw⟩ := hw
  subst u8 u9
  refine r_newI d_M_init_148 ac_I u6 rfl u7 (refB_r q114 refB_n) (refL_r q114 refL_n) ?_
  generalize e8 : nw (sR h110 v0 37 a111) 20 (ix (6000 : Int32)) = h117 at hw ⊢
  generalize e7 : gX (sR h110 v0 37 a111) = a118 at hw ⊢
  replace hw := hw a118 h117 e7.symm e8.symm
  obtain ⟨q119, hw⟩ := hw
  obtain ⟨q120, hw⟩ := hw
  refine r_putFR d_M_init_150 ok_12 (nle rfl) (nle rfl) rfl lf_M_68 rfl rfl rfl q119 q120 ?_
  refine r_aload_n (j := 0) d_M_init_153 rfl ?_
  refine r_bipush d_M_init_154 kb_6 ?_
  obtain ⟨q121, hw⟩ := hw
  obtain ⟨b122, t123, u8, u9, u6, u7, hw⟩ := hw
  subst u8 u9
  refine r_newI d_M_init_156 ac_I u6 rfl u7 (refB_r q121 refB_n) (refL_r q121 refL_n) ?_
  generalize e8 : nw (sR h117 v0 42 a118) 20 (ix (6 : Int32)) = h124 at hw ⊢
  generalize e7 : gX (sR h117 v0 42 a118) = a125 at hw ⊢
  replace hw := hw a125 h124 e7.symm e8.symm
  obtain ⟨q126, hw⟩ := hw
  obtain ⟨q127, hw⟩ := hw
  refine r_putFR d_M_init_158 ok_12 (nle rfl) (nle rfl) rfl lf_M_71 rfl rfl rfl q126 q127 ?_
  refine r_aload_n (j := 0) d_M_init_161 rfl ?_
  refine r_bipush d_M_init_162 kb_15 ?_
  obtain ⟨q128, hw⟩ := hw
  obtain ⟨b129, t130, u8, u9, u6, u7, hw⟩ := hw
  subst u8 u9
  refine r_newL d_M_init_164 ac_J u6 rfl u7 (refB_r q128 refB_n) (refL_r q128 refL_n) ?_
  generalize e8 : nw (sR h124 v0 43 a125) 21 (ix (15 : Int32)) = h131 at hw ⊢
  generalize e7 : gX (sR h124 v0 43 a125) = a132 at hw ⊢
  replace hw := hw a132 h131 e7.symm e8.symm
  obtain ⟨q133, hw⟩ := hw
  obtain ⟨q134, hw⟩ := hw
  refine r_putFR d_M_init_166 ok_12 (nle rfl) (nle rfl) rfl lf_M_74 rfl rfl rfl q133 q134 ?_
  refine r_aload_n (j := 0) d_M_init_169 rfl ?_
  refine r_bipush d_M_init_170 kb_8 ?_
  obtain ⟨q135, hw⟩ := hw
  obtain ⟨b136, t137, u8, u9, u6, u7, hw⟩ := hw
  subst u8 u9
  refine r_newL d_M_init_172 ac_J u6 rfl u7 (refB_r q135 refB_n) (refL_r q135 refL_n) ?_
  generalize e8 : nw (sR h131 v0 45 a132) 21 (ix (8 : Int32)) = h138 at hw ⊢
  generalize e7 : gX (sR h131 v0 45 a132) = a139 at hw ⊢
  replace hw := hw a139 h138 e7.symm e8.symm
  obtain ⟨q140, hw⟩ := hw
  obtain ⟨q141, hw⟩ := hw
  refine r_putFR d_M_init_174 ok_12 (nle rfl) (nle rfl) rfl lf_M_77 rfl rfl rfl q140 q141 ?_
  refine r_aload_n (j := 0) d_M_init_177 rfl ?_
  refine r_bipush d_M_init_178 kb_8 ?_
  obtain ⟨q142, hw⟩ := hw
  obtain ⟨b143, t144, u8, u9, u6, u7, hw⟩ := hw
  subst u8 u9
  refine r_newL d_M_init_180 ac_J u6 rfl u7 (refB_r q142 refB_n) (refL_r q142 refL_n) ?_
  generalize e8 : nw (sR h138 v0 46 a139) 21 (ix (8 : Int32)) = h145 at hw ⊢
  generalize e7 : gX (sR h138 v0 46 a139) = a146 at hw ⊢
  replace hw := hw a146 h145 e7.symm e8.symm
  obtain ⟨q147, hw⟩ := hw
  obtain ⟨q148, hw⟩ := hw
  refine r_putFR d_M_init_182 ok_12 (nle rfl) (nle rfl) rfl lf_M_80 rfl rfl rfl q147 q148 ?_
  refine r_aload_n (j := 0) d_M_init_185 rfl ?_
  refine r_bipush d_M_init_186 kb_8 ?_
  obtain ⟨q149, hw⟩ := hw
  obtain ⟨b150, t151, u8, u9, u6, u7, hw⟩ := hw
  subst u8 u9
  refine r_newL d_M_init_188 ac_J u6 rfl u7 (refB_r q149 refB_n) (refL_r q149 refL_n) ?_
  generalize e8 : nw (sR h145 v0 47 a146) 21 (ix (8 : Int32)) = h152 at hw ⊢
  generalize e7 : gX (sR h145 v0 47 a146) = a153 at hw ⊢
  replace hw := hw a153 h152 e7.symm e8.symm
  obtain ⟨q154, hw⟩ := hw
  obtain ⟨q155, hw⟩ := hw
  refine r_putFR d_M_init_190 ok_12 (nle rfl) (nle rfl) rfl lf_M_83 rfl rfl rfl q154 q155 ?_
  refine r_aload_n (j := 0) d_M_init_193 rfl ?_
  refine r_bipush d_M_init_194 kb_8 ?_
  obtain ⟨q156, hw⟩ := hw
  obtain ⟨b157, t158, u8, u9, u6, u7, hw⟩ := hw
  subst u8 u9
  refine r_newL d_M_init_196 ac_J u6 rfl u7 (refB_r q156 refB_n) (refL_r q156 refL_n) ?_
  generalize e8 : nw (sR h152 v0 48 a153) 21 (ix (8 : Int32)) = h159 at hw ⊢
  generalize e7 : gX (sR h152 v0 48 a153) = a160 at hw ⊢
  replace hw := hw a160 h159 e7.symm e8.symm
  obtain ⟨q161, hw⟩ := hw
  obtain ⟨q162, hw⟩ := hw
  refine r_putFR d_M_init_198 ok_12 (nle rfl) (nle rfl) rfl lf_M_86 rfl rfl rfl q161 q162 ?_
  refine r_aload_n (j := 0) d_M_init_201 rfl ?_
  refine r_bipush d_M_init_202 kb_8 ?_
  obtain ⟨q163, hw⟩ := hw
  obtain ⟨b164, t165, u8, u9, u6, u7, hw⟩ := hw
  subst u8 u9
  refine r_newI d_M_init_204 ac_I u6 rfl u7 (refB_r q163 refB_n) (refL_r q163 refL_n) ?_
  generalize e8 : nw (sR h159 v0 49 a160) 20 (ix (8 : Int32)) = h166 at hw ⊢
  generalize e7 : gX (sR h159 v0 49 a160) = a167 at hw ⊢
  replace hw := hw a167 h166 e7.symm e8.symm
  obtain ⟨q168, hw⟩ := hw
  obtain ⟨q169, hw⟩ := hw
  refine r_putFR d_M_init_206 ok_12 (nle rfl) (nle rfl) rfl lf_M_89 rfl rfl rfl q168 q169 ?_
  refine r_aload_n (j := 0) d_M_init_209 rfl ?_
  refine r_iconst d_M_init_210 kc_3 ?_
  obtain ⟨q170, hw⟩ := hw
  obtain ⟨b171, t172, u8, u9, u6, u7, hw⟩ := hw
  subst u8 u9
  refine r_newI d_M_init_211 ac_I u6 rfl u7 (refB_r q170 refB_n) (refL_r q170 refL_n) ?_
  generalize e8 : nw (sR h166 v0 50 a167) 20 (ix (3 : Int32)) = h173 at hw ⊢
  generalize e7 : gX (sR h166 v0 50 a167) = a174 at hw ⊢
  replace hw := hw a174 h173 e7.symm e8.symm
  obtain ⟨q175, hw⟩ := hw
  obtain ⟨q176, hw⟩ := hw
  refine r_putFR d_M_init_213 ok_12 (nle rfl) (nle rfl) rfl lf_M_92 rfl rfl rfl q175 q176 ?_
  refine r_aload_n (j := 0) d_M_init_216 rfl ?_
  refine r_bipush d_M_init_217 kb_8 ?_
  obtain ⟨q177, hw⟩ := hw
  obtain ⟨b178, t179, u8, u9, u6, u7, hw⟩ := hw
  subst u8 u9
  refine r_newI d_M_init_219 ac_I u6 rfl u7 (refB_r q177 refB_n) (refL_r q177 refL_n) ?_
  generalize e8 : nw (sR h173 v0 51 a174) 20 (ix (8 : Int32)) = h180 at hw ⊢
  generalize e7 : gX (sR h173 v0 51 a174) = a181 at hw ⊢
  replace hw := hw a181 h180 e7.symm e8.symm
  obtain ⟨q182, hw⟩ := hw
  obtain ⟨q183, hw⟩ := hw
  refine r_putFR d_M_init_221 ok_12 (nle rfl) (nle rfl) rfl lf_M_95 rfl rfl rfl q182 q183 ?_
  refine r_aload_n (j := 0) d_M_init_224 rfl ?_
  refine r_bipush d_M_init_225 kb_8 ?_
  obtain ⟨q184, hw⟩ := hw
  obtain ⟨b185, t186, u8, u9, u6, u7, hw⟩ := hw
  subst u8 u9
  refine r_newI d_M_init_227 ac_I u6 rfl u7 (refB_r q184 refB_n) (refL_r q184 refL_n) ?_
  generalize e8 : nw (sR h180 v0 59 a181) 20 (ix (8 : Int32)) = h187 at hw ⊢
  generalize e7 : gX (sR h180 v0 59 a181) = a188 at hw ⊢
  replace hw := hw a188 h187 e7.symm e8.symm
  obtain ⟨q189, hw⟩ := hw
  obtain ⟨q190, hw⟩ := hw
  refine r_putFR d_M_init_229 ok_12 (nle rfl) (nle rfl) rfl lf_M_98 rfl rfl rfl q189 q190 ?_
  refine r_aload_n (j := 0) d_M_init_232 rfl ?_
  refine r_bipush d_M_init_233 kb_8 ?_
  obtain ⟨q191, hw⟩ := hw
  obtain ⟨b192, t193, u8, u9, u6, u7, hw⟩ := hw
  subst u8 u9
  refine r_newI d_M_init_235 ac_I u6 rfl u7 (refB_r q191 refB_n) (refL_r q191 refL_n) ?_
  generalize e8 : nw (sR h187 v0 60 a188) 20 (ix (8 : Int32)) = h194 at hw ⊢
  generalize e7 : gX (sR h187 v0 60 a188) = a195 at hw ⊢
  replace hw := hw a195 h194 e7.symm e8.symm
  obtain ⟨q196, hw⟩ := hw
  obtain ⟨q197, hw⟩ := hw
  refine r_putFR d_M_init_237 ok_12 (nle rfl) (nle rfl) rfl lf_M_101 rfl rfl rfl q196 q197 ?_
  refine r_aload_n (j := 0) d_M_init_240 rfl ?_
  refine r_iconst d_M_init_241 kc_3 ?_
  obtain ⟨q198, hw⟩ := hw
  obtain ⟨b199, t200, u8, u9, u6, u7, hw⟩ := hw
  subst u8 u9
  refine r_newI d_M_init_242 ac_I u6 rfl u7 (refB_r q198 refB_n) (refL_r q198 refL_n) ?_
  generalize e8 : nw (sR h194 v0 61 a195) 20 (ix (3 : Int32)) = h201 at hw ⊢
  generalize e7 : gX (sR h194 v0 61 a195) = a202 at hw ⊢
  replace hw := hw a202 h201 e7.symm e8.symm
  obtain ⟨q203, hw⟩ := hw
  obtain ⟨q204, hw⟩ := hw
  refine r_putFR d_M_init_244 ok_12 (nle rfl) (nle rfl) rfl lf_M_104 rfl rfl rfl q203 q204 ?_
  refine r_aload_n (j := 0) d_M_init_247 rfl ?_
  refine r_bipush d_M_init_248 kb_20 ?_
  obtain ⟨q205, hw⟩ := hw
  obtain ⟨b206, t207, u8, u9, u6, u7, hw⟩ := hw
  subst u8 u9
  refine r_newI d_M_init_250 ac_I u6 rfl u7 (refB_r q205 refB_n) (refL_r q205 refL_n) ?_
  generalize e8 : nw (sR h201 v0 62 a202) 20 (ix (20 : Int32)) = h208 at hw ⊢
  generalize e7 : gX (sR h201 v0 62 a202) = a209 at hw ⊢
  replace hw := hw a209 h208 e7.symm e8.symm
  obtain ⟨q210, hw⟩ := hw
  obtain ⟨q211, hw⟩ := hw
  refine r_putFR d_M_init_252 ok_12 (nle rfl) (nle rfl) rfl lf_M_107 rfl rfl rfl q210 q211 ?_
  refine r_aload_n (j := 0) d_M_init_255 rfl ?_
  refine r_bipush d_M_init_256 kb_60 ?_
  obtain ⟨q212, hw⟩ := hw
  obtain ⟨b213, t214, u8, u9, u6, u7, hw⟩ := hw
  subst u8 u9
  refine r_newI d_M_init_258 ac_I u6 rfl u7 (refB_r q212 refB_n) (refL_r q212 refL_n) ?_
  generalize e8 : nw (sR h208 v0 68 a209) 20 (ix (60 : Int32)) = h215 at hw ⊢
  generalize e7 : gX (sR h208 v0 68 a209) = a216 at hw ⊢
  replace hw := hw a216 h215 e7.symm e8.symm
  obtain ⟨q217, hw⟩ := hw
  obtain ⟨q218, hw⟩ := hw
  refine r_putFR d_M_init_260 ok_12 (nle rfl) (nle rfl) rfl lf_M_110 rfl rfl rfl q217 q218 ?_
  refine r_aload_n (j := 0) d_M_init_263 rfl ?_
  refine r_bipush d_M_init_264 kb_20 ?_
  obtain ⟨q219, hw⟩ := hw
  obtain ⟨b220, t221, u8, u9, u6, u7, hw⟩ := hw
  subst u8 u9
  refine r_newI d_M_init_266 ac_I u6 rfl u7 (refB_r q219 refB_n) (refL_r q219 refL_n) ?_
  generalize e8 : nw (sR h215 v0 69 a216) 20 (ix (20 : Int32)) = h222 at hw ⊢
  generalize e7 : gX (sR h215 v0 69 a216) = a223 at hw ⊢
  replace hw := hw a223 h222 e7.symm e8.symm
  obtain ⟨q224, hw⟩ := hw
  obtain ⟨q225, hw⟩ := hw
  refine r_putFR d_M_init_268 ok_12 (nle rfl) (nle rfl) rfl lf_M_113 rfl rfl rfl q224 q225 ?_
  refine r_aload_n (j := 0) d_M_init_271 rfl ?_
  refine r_bipush d_M_init_272 kb_20 ?_
  obtain ⟨q226, hw⟩ := hw
  obtain ⟨b227, t228, u8, u9, u6, u7, hw⟩ := hw
  subst u8 u9
  refine r_newI d_M_init_274 ac_I u6 rfl u7 (refB_r q226 refB_n) (refL_r q226 refL_n) ?_
  generalize e8 : nw (sR h222 v0 70 a223) 20 (ix (20 : Int32)) = h229 at hw ⊢
  generalize e7 : gX (sR h222 v0 70 a223) = a230 at hw ⊢
  replace hw := hw a230 h229 e7.symm e8.symm
  obtain ⟨q231, hw⟩ := hw
  obtain ⟨q232, hw⟩ := hw
  refine r_putFR d_M_init_276 ok_12 (nle rfl) (nle rfl) rfl lf_M_116 rfl rfl rfl q231 q232 ?_
  refine r_aload_n (j := 0) d_M_init_279 rfl ?_
  refine r_bipush d_M_init_280 kb_20 ?_
  obtain ⟨q233, hw⟩ := hw
  obtain ⟨b234, t235, u8, u9, u6, u7, hw⟩ := hw
  subst u8 u9
  refine r_newI d_M_init_282 ac_I u6 rfl u7 (refB_r q233 refB_n) (refL_r q233 refL_n) ?_
  generalize e8 : nw (sR h229 v0 71 a230) 20 (ix (20 : Int32)) = h236 at hw ⊢
  generalize e7 : gX (sR h229 v0 71 a230) = a237 at hw ⊢
  replace hw := hw a237 h236 e7.symm e8.symm
  obtain ⟨q238, hw⟩ := hw
  obtain ⟨q239, hw⟩ := hw
  refine r_putFR d_M_init_284 ok_12 (nle rfl) (nle rfl) rfl lf_M_119 rfl rfl rfl q238 q239 ?_
  refine r_aload_n (j := 0) d_M_init_287 rfl ?_
  refine r_bipush d_M_init_288 kb_9 ?_
  obtain ⟨q240, hw⟩ := hw
  obtain ⟨b241, t242, u8, u9, u6, u7, hw⟩ := hw
  subst u8 u9
  refine r_newZ d_M_init_290 ac_Z u6 rfl u7 (refB_r q240 refB_n) (refL_r q240 refL_n) ?_
  generalize e8 : nw (sR h236 v0 72 a237) 22 (ix (9 : Int32)) = h243 at hw ⊢
  generalize e7 : gX (sR h236 v0 72 a237) = a244 at hw ⊢
  replace hw := hw a244 h243 e7.symm e8.symm
  obtain ⟨q245, hw⟩ := hw
  obtain ⟨q246, hw⟩ := hw
  refine r_putFR d_M_init_292 ok_12 (nle rfl) (nle rfl) rfl lf_M_122 rfl rfl rfl q245 q246 ?_
  refine r_aload_n (j := 0) d_M_init_295 rfl ?_
  refine r_sipush d_M_init_296 ks_369 ?_
  obtain ⟨q247, hw⟩ := hw
  obtain ⟨b248, t249, u8, u9, u6, u7, hw⟩ := hw
  subst u8 u9
  refine r_newZ d_M_init_299 ac_Z u6 rfl u7 (refB_r q247 refB_n) (refL_r q247 refL_n) ?_
  generalize e8 : nw (sR h243 v0 75 a244) 22 (ix (369 : Int32)) = h250 at hw ⊢
  generalize e7 : gX (sR h243 v0 75 a244) = a251 at hw ⊢
  replace hw := hw a251 h250 e7.symm e8.symm
  obtain ⟨q252, hw⟩ := hw
  obtain ⟨q253, hw⟩ := hw
  refine r_putFR d_M_init_301 ok_12 (nle rfl) (nle rfl) rfl lf_M_126 rfl rfl rfl q252 q253 ?_
  refine r_aload_n (j := 0) d_M_init_304 rfl ?_
  refine r_bipush d_M_init_305 kb_88 ?_
  obtain ⟨q254, hw⟩ := hw
  obtain ⟨b255, t256, u8, u9, u6, u7, hw⟩ := hw
  subst u8 u9
  refine r_newI d_M_init_307 ac_I u6 rfl u7 (refB_r q254 refB_n) (refL_r q254 refL_n) ?_
  generalize e8 : nw (sR h250 v0 76 a251) 20 (ix (88 : Int32)) = h257 at hw ⊢
  generalize e7 : gX (sR h250 v0 76 a251) = a258 at hw ⊢
  replace hw := hw a258 h257 e7.symm e8.symm
  obtain ⟨q259, hw⟩ := hw
  obtain ⟨q260, hw⟩ := hw
  refine r_putFR d_M_init_309 ok_12 (nle rfl) (nle rfl) rfl lf_M_129 rfl rfl rfl q259 q260 ?_
  refine r_aload_n (j := 0) d_M_init_312 rfl ?_
  refine r_iconst d_M_init_313 kc_2 ?_
  obtain ⟨q261, hw⟩ := hw
  obtain ⟨b262, t263, u8, u9, u6, u7, hw⟩ := hw
  subst u8 u9
  refine r_newZ d_M_init_314 ac_Z u6 rfl u7 (refB_r q261 refB_n) (refL_r q261 refL_n) ?_
  generalize e8 : nw (sR h257 v0 77 a258) 22 (ix (2 : Int32)) = h264 at hw ⊢
  generalize e7 : gX (sR h257 v0 77 a258) = a265 at hw ⊢
  replace hw := hw a265 h264 e7.symm e8.symm
  obtain ⟨q266, hw⟩ := hw
  obtain ⟨q267, hw⟩ := hw
  refine r_putFR d_M_init_316 ok_12 (nle rfl) (nle rfl) rfl lf_M_132 rfl rfl rfl q266 q267 ?_
  refine r_aload_n (j := 0) d_M_init_319 rfl ?_
  refine r_callV (av := []) (rest := []) (ci := 12) d_M_init_320 mk_M_begins ll_M_135 im_M_begins se_M_begins rfl (nle rfl) rfl rfl (nle rfl) q266 (s_M_begins  hw (fun h268 hw => ?_))
  show aW none m_M_init (d + 1) 323 [(0, ar v0)] [] h268 b262 t263 QQ
  refine r_aload_n (j := 0) d_M_init_323 rfl ?_
  obtain ⟨q270, hw⟩ := hw
  refine r_callV (av := []) (rest := []) (ci := 12) d_M_init_324 mk_M_takesOver ll_M_138 im_M_takesOver se_M_takesOver rfl (nle rfl) rfl rfl (nle rfl) q270 (s_M_takesOver  hw (fun h269 hw => ?_))
  show aW none m_M_init (d + 1) 327 [(0, ar v0)] [] h269 b262 t263 QQ
  exact r_return d_M_init_327.1 rfl (hQ _ hw)
set_option maxRecDepth 100000 in
set_option maxHeartbeats 4000000 in
theorem s_M_isIn {d : Nat} {v0 : Int32} {v1 : Int32} {v2 : Int32} {h : Hp} {Q : Bool → Hp → Prop} {QQ : Option AV → Hp → Prop} (hw : w_M_isIn v0 v1 v2 h Q) (hQ : ∀ r9 h9, Q r9 h9 → QQ (some (ai (b2i r9))) h9) : aCall m_M_isIn d [ai v0, ai v1, ai v2] h 0 0 QQ := by
  refine aCall_in pl_M_isIn (nle rfl) ?_
  show aW none m_M_isIn d 0 [(0, ai v0), (1, ai v1), (2, ai v2)] [] h 0 0 QQ
  unfold w_M_isIn at hw
  refine r_iload_n (j := 0) d_M_isIn_0 rfl ?_
  refine r_iload_n (j := 1) d_M_isIn_1 rfl ?_
  refine r_icmp_lt d_M_isIn_2 (fun w9 => ?_) (fun w9 => ?_)
  · replace hw := hw.1 w9
    refine r_iconst d_M_isIn_14 kc_0 ?_
    exact r_zreturn d_M_isIn_15.1 rfl (Or.inl rfl) (hQ _ _ hw)
  · replace hw := hw.2 w9
    refine r_iload_n (j := 0) d_M_isIn_5 rfl ?_
    refine r_iload_n (j := 2) d_M_isIn_6 rfl ?_
    refine r_icmp_gt d_M_isIn_7 (fun w9 => ?_) (fun w9 => ?_)
    · replace hw := hw.1 w9
      refine r_iconst d_M_isIn_14 kc_0 ?_
      exact r_zreturn d_M_isIn_15.1 rfl (Or.inl rfl) (hQ _ _ hw)
    · replace hw := hw.2 w9
      refine r_iconst d_M_isIn_10 kc_1 ?_
      refine r_goto d_M_isIn_11 ?_
      exact r_zreturn d_M_isIn_15.1 rfl (Or.inr rfl) (hQ _ _ hw)
set_option maxRecDepth 100000 in
set_option maxHeartbeats 4000000 in
theorem s_M_greater {d : Nat} {v0 : Int32} {v1 : Int32} {h : Hp} {Q : Int32 → Hp → Prop} {QQ : Option AV → Hp → Prop} (hw : w_M_greater v0 v1 h Q) (hQ : ∀ r9 h9, Q r9 h9 → QQ (some (ai r9)) h9) : aCall m_M_greater d [ai v0, ai v1] h 0 0 QQ := by
  refine aCall_in pl_M_greater (nle rfl) ?_
  show aW none m_M_greater d 0 [(0, ai v0), (1, ai v1)] [] h 0 0 QQ
  unfold w_M_greater at hw
  refine r_iload_n (j := 0) d_M_greater_0 rfl ?_
  refine r_iload_n (j := 1) d_M_greater_1 rfl ?_
  refine r_icmp_le d_M_greater_2 (fun w9 => ?_) (fun w9 => ?_)
  · replace hw := hw.1 w9
    refine r_iload_n (j := 1) d_M_greater_9 rfl ?_
    exact r_ireturn d_M_greater_10.1 rfl (hQ _ _ hw)
  · replace hw := hw.2 w9
    refine r_iload_n (j := 0) d_M_greater_5 rfl ?_
    refine r_goto d_M_greater_6 ?_
    exact r_ireturn d_M_greater_10.1 rfl (hQ _ _ hw)
set_option maxRecDepth 100000 in
set_option maxHeartbeats 4000000 in
theorem s_M_lesser {d : Nat} {v0 : Int32} {v1 : Int32} {h : Hp} {Q : Int32 → Hp → Prop} {QQ : Option AV → Hp → Prop} (hw : w_M_lesser v0 v1 h Q) (hQ : ∀ r9 h9, Q r9 h9 → QQ (some (ai r9)) h9) : aCall m_M_lesser d [ai v0, ai v1] h 0 0 QQ := by
  refine aCall_in pl_M_lesser (nle rfl) ?_
  show aW none m_M_lesser d 0 [(0, ai v0), (1, ai v1)] [] h 0 0 QQ
  unfold w_M_lesser at hw
  refine r_iload_n (j := 0) d_M_lesser_0 rfl ?_
  refine r_iload_n (j := 1) d_M_lesser_1 rfl ?_
  refine r_icmp_ge d_M_lesser_2 (fun w9 => ?_) (fun w9 => ?_)
  · replace hw := hw.1 w9
    refine r_iload_n (j := 1) d_M_lesser_9 rfl ?_
    exact r_ireturn d_M_lesser_10.1 rfl (hQ _ _ hw)
  · replace hw := hw.2 w9
    refine r_iload_n (j := 0) d_M_lesser_5 rfl ?_
    refine r_goto d_M_lesser_6 ?_
    exact r_ireturn d_M_lesser_10.1 rfl (hQ _ _ hw)
set_option maxRecDepth 100000 in
set_option maxHeartbeats 4000000 in
theorem s_M_truth {d : Nat} {v0 : Int32} {h : Hp} {Q : Int32 → Hp → Prop} {QQ : Option AV → Hp → Prop} (hw : w_M_truth v0 h Q) (hQ : ∀ r9 h9, Q r9 h9 → QQ (some (ai r9)) h9) : aCall m_M_truth d [ai v0] h 0 0 QQ := by
  refine aCall_in pl_M_truth (nle rfl) ?_
  show aW none m_M_truth d 0 [(0, ai v0)] [] h 0 0 QQ
  unfold w_M_truth at hw
  refine r_iload_n (j := 0) d_M_truth_0 rfl ?_
  refine r_if_eq d_M_truth_1 (fun w9 => ?_) (fun w9 => ?_)
  · replace hw := hw.1 w9
    refine r_iconst d_M_truth_8 kc_0 ?_
    exact r_ireturn d_M_truth_9.1 rfl (hQ _ _ hw)
  · replace hw := hw.2 w9
    refine r_iconst d_M_truth_4 kc_1 ?_
    refine r_goto d_M_truth_5 ?_
    exact r_ireturn d_M_truth_9.1 rfl (hQ _ _ hw)
set_option maxRecDepth 100000 in
set_option maxHeartbeats 4000000 in
theorem s_M_plus {d : Nat} {v0 : Int32} {h : Hp} {Q : Int32 → Hp → Prop} {QQ : Option AV → Hp → Prop} (hw : w_M_plus v0 h Q) (hQ : ∀ r9 h9, Q r9 h9 → QQ (some (ai r9)) h9) : aCall m_M_plus d [ai v0] h 0 0 QQ := by
  refine aCall_in pl_M_plus (nle rfl) ?_
  show aW none m_M_plus d 0 [(0, ai v0)] [] h 0 0 QQ
  unfold w_M_plus at hw
  refine r_iload_n (j := 0) d_M_plus_0 rfl ?_
  refine r_if_ge d_M_plus_1 (fun w9 => ?_) (fun w9 => ?_)
  · replace hw := hw.1 w9
    refine r_iload_n (j := 0) d_M_plus_9 rfl ?_
    exact r_ireturn d_M_plus_10.1 rfl (hQ _ _ hw)
  · replace hw := hw.2 w9
    refine r_iload_n (j := 0) d_M_plus_4 rfl ?_
    refine r_ineg d_M_plus_5 ?_
    refine r_goto d_M_plus_6 ?_
    exact r_ireturn d_M_plus_10.1 rfl (hQ _ _ hw)
set_option maxRecDepth 100000 in
set_option maxHeartbeats 4000000 in
theorem s_M_four_L3 {d : Nat} {Q : Hp → Prop} {QQ : Option AV → Hp → Prop} (hQ : ∀ h9, Q h9 → QQ none h9) {v0 : Nat} {v1 : Int32} : ∀ (n : Nat) (v2 : Int32) (h : Hp), w_M_four_L3 Q  v0 v1 n v2 h → aW none m_M_four d 3 [(0, ar v0), (1, ai v1), (2, ai v2)] [] h 0 0 QQ := by
  intro n
  induction n with
  | zero => intro v2 h hw; exact hw.elim
  | succ n ih =>
    intro v2 h hw
    unfold w_M_four_L3 at hw
    refine r_iload_n (j := 2) d_M_four_3 rfl ?_
    refine r_if_lt d_M_four_4 (fun w9 => ?_) (fun w9 => ?_)
    · replace hw := hw.1 w9
      exact r_return d_M_four_39.1 rfl (hQ _ hw)
    · replace hw := hw.2 w9
      refine r_aload_n (j := 0) d_M_four_7 rfl ?_
      obtain ⟨q1, hw⟩ := hw
      refine r_getR d_M_four_8 ok_12 (nle rfl) (nle rfl) rfl lf_M_7 q1 ?_
      refine r_aload_n (j := 0) d_M_four_11 rfl ?_
      refine r_getI d_M_four_12 ok_12 (nle rfl) (nle rfl) rfl lf_M_141 q1 ?_
      refine r_iload_n (j := 1) d_M_four_15 rfl ?_
      refine r_iload_n (j := 2) d_M_four_16 rfl ?_
      refine r_ishr d_M_four_17 ?_
      refine r_sipush d_M_four_18 ks_255 ?_
      refine r_iand d_M_four_21 ?_
      obtain ⟨q2, hw⟩ := hw
      obtain ⟨q3, hw⟩ := hw
      refine r_iast d_M_four_22 q2 q3 ?_
      refine r_aload_n (j := 0) d_M_four_23 rfl ?_
      refine r_dup d_M_four_24 rfl ?_
      refine r_getI d_M_four_25 ok_12 (nle rfl) (nle rfl) rfl lf_M_141 q1 ?_
      refine r_iconst d_M_four_28 kc_1 ?_
      refine r_iadd d_M_four_29 ?_
      refine r_putI d_M_four_30 ok_12 (nle rfl) (nle rfl) rfl lf_M_141 rfl q1 ?_
      refine r_iinc (j := 2) (ls2 := [(2, ai (v2 + (-8 : Int32))), (0, ar v0), (1, ai v1)]) d_M_four_33 rfl (congrArg (HAdd.hAdd v2) kc_m8) (nle rfl) rfl ?_
      refine r_goto d_M_four_36 ?_
      refine r_pick (ls2 := [(0, ar v0), (1, ai v1), (2, ai (v2 + (-8 : Int32)))]) [1, 2, 0] rfl ?_
      exact ih _ _ hw
set_option maxRecDepth 100000 in
set_option maxHeartbeats 4000000 in
theorem s_M_four {d : Nat} {v0 : Nat} {v1 : Int32} {h : Hp} {Q : Hp → Prop} {QQ : Option AV → Hp → Prop} (hw : w_M_four v0 v1 h Q) (hQ : ∀ h9, Q h9 → QQ none h9) : aCall m_M_four d [ar v0, ai v1] h 0 0 QQ := by
  refine aCall_in pl_M_four (nle rfl) ?_
  show aW none m_M_four d 0 [(0, ar v0), (1, ai v1)] [] h 0 0 QQ
  unfold w_M_four at hw
  refine r_bipush d_M_four_0 kb_24 ?_
  refine r_istore_n (ls2 := [(2, ai (24 : Int32)), (0, ar v0), (1, ai v1)]) d_M_four_2 (nle rfl) rfl ?_
  obtain ⟨n4, hw⟩ := hw
  refine r_pick (ls2 := [(0, ar v0), (1, ai v1), (2, ai (24 : Int32))]) [1, 2, 0] rfl ?_
  exact s_M_four_L3 hQ  n4 _ _ hw
set_option maxRecDepth 100000 in
set_option maxHeartbeats 4000000 in
theorem s_M_feed {d : Nat} (hd : 1 ≤ d) {v0 : Nat} {v1 : Int32} {v2 : Int32} {v3 : Int32} {v4 : Int32} {v5 : Int32} {h : Hp} {Q : Int32 → Hp → Prop} {QQ : Option AV → Hp → Prop} (hw : w_M_feed v0 v1 v2 v3 v4 v5 h Q) (hQ : ∀ r9 h9, Q r9 h9 → QQ (some (ai r9)) h9) : aCall m_M_feed d [ar v0, ai v1, ai v2, ai v3, ai v4, ai v5] h 0 0 QQ := by
  obtain ⟨d, rfl⟩ : ∃ d9, d = d9 + 1 := ⟨d - 1, by omega⟩
  refine aCall_in pl_M_feed (nle rfl) ?_
  show aW none m_M_feed (d + 1) 0 [(0, ar v0), (1, ai v1), (2, ai v2), (3, ai v3), (4, ai v4), (5, ai v5)] [] h 0 0 QQ
  unfold w_M_feed at hw
  refine r_aload_n (j := 0) d_M_feed_0 rfl ?_
  obtain ⟨q1, hw⟩ := hw
  refine r_getI d_M_feed_1 ok_12 (nle rfl) (nle rfl) rfl lf_M_141 q1 ?_
  refine r_bipush d_M_feed_4 kb_20 ?_
  refine r_iadd d_M_feed_6 ?_
  refine r_sipush d_M_feed_7 ks_700 ?_
  refine r_icmp_le d_M_feed_10 (fun w9 => ?_) (fun w9 => ?_)
  · replace hw := hw.1 w9
    refine r_aload_n (j := 0) d_M_feed_15 rfl ?_
    refine r_iload_n (j := 1) d_M_feed_16 rfl ?_
    refine r_callV (av := [ai v1]) (rest := []) (ci := 12) d_M_feed_17 mk_M_four ll_M_144 im_M_four se_M_four rfl (nle rfl) rfl rfl (nle rfl) q1 (s_M_four  hw (fun h2 hw => ?_))
    show aW none m_M_feed (d + 1) 20 [(0, ar v0), (1, ai v1), (2, ai v2), (3, ai v3), (4, ai v4), (5, ai v5)] [] h2 0 0 QQ
    refine r_aload_n (j := 0) d_M_feed_20 rfl ?_
    refine r_iload_n (j := 2) d_M_feed_21 rfl ?_
    obtain ⟨q4, hw⟩ := hw
    refine r_callV (av := [ai v2]) (rest := []) (ci := 12) d_M_feed_22 mk_M_four ll_M_144 im_M_four se_M_four rfl (nle rfl) rfl rfl (nle rfl) q4 (s_M_four  hw (fun h3 hw => ?_))
    show aW none m_M_feed (d + 1) 25 [(0, ar v0), (1, ai v1), (2, ai v2), (3, ai v3), (4, ai v4), (5, ai v5)] [] h3 0 0 QQ
    refine r_aload_n (j := 0) d_M_feed_25 rfl ?_
    refine r_iload_n (j := 3) d_M_feed_26 rfl ?_
    obtain ⟨q6, hw⟩ := hw
    refine r_callV (av := [ai v3]) (rest := []) (ci := 12) d_M_feed_27 mk_M_four ll_M_144 im_M_four se_M_four rfl (nle rfl) rfl rfl (nle rfl) q6 (s_M_four  hw (fun h5 hw => ?_))
    show aW none m_M_feed (d + 1) 30 [(0, ar v0), (1, ai v1), (2, ai v2), (3, ai v3), (4, ai v4), (5, ai v5)] [] h5 0 0 QQ
    refine r_aload_n (j := 0) d_M_feed_30 rfl ?_
    refine r_iload (j := 4) d_M_feed_31 rfl ?_
    obtain ⟨q8, hw⟩ := hw
    refine r_callV (av := [ai v4]) (rest := []) (ci := 12) d_M_feed_33 mk_M_four ll_M_144 im_M_four se_M_four rfl (nle rfl) rfl rfl (nle rfl) q8 (s_M_four  hw (fun h7 hw => ?_))
    show aW none m_M_feed (d + 1) 36 [(0, ar v0), (1, ai v1), (2, ai v2), (3, ai v3), (4, ai v4), (5, ai v5)] [] h7 0 0 QQ
    refine r_aload_n (j := 0) d_M_feed_36 rfl ?_
    refine r_iload (j := 5) d_M_feed_37 rfl ?_
    obtain ⟨q10, hw⟩ := hw
    refine r_callV (av := [ai v5]) (rest := []) (ci := 12) d_M_feed_39 mk_M_four ll_M_144 im_M_four se_M_four rfl (nle rfl) rfl rfl (nle rfl) q10 (s_M_four  hw (fun h9 hw => ?_))
    show aW none m_M_feed (d + 1) 42 [(0, ar v0), (1, ai v1), (2, ai v2), (3, ai v3), (4, ai v4), (5, ai v5)] [] h9 0 0 QQ
    refine r_aload_n (j := 0) d_M_feed_42 rfl ?_
    obtain ⟨q11, hw⟩ := hw
    refine r_getI d_M_feed_43 ok_12 (nle rfl) (nle rfl) rfl lf_M_141 q11 ?_
    exact r_ireturn d_M_feed_46.1 rfl (hQ _ _ hw)
  · replace hw := hw.2 w9
    refine r_iconst d_M_feed_13 kc_m1 ?_
    exact r_ireturn d_M_feed_14.1 rfl (hQ _ _ hw)
set_option maxRecDepth 100000 in
set_option maxHeartbeats 4000000 in
theorem s_M_end {d : Nat} (hd : 1 ≤ d) {v0 : Nat} {v1 : Int32} {h : Hp} {Q : Int32 → Hp → Prop} {QQ : Option AV → Hp → Prop} (hw : w_M_end v0 v1 h Q) (hQ : ∀ r9 h9, Q r9 h9 → QQ (some (ai r9)) h9) : aCall m_M_end d [ar v0, ai v1] h 0 0 QQ := by
  obtain ⟨d, rfl⟩ : ∃ d9, d = d9 + 1 := ⟨d - 1, by omega⟩
  refine aCall_in pl_M_end (nle rfl) ?_
  show aW none m_M_end (d + 1) 0 [(0, ar v0), (1, ai v1)] [] h 0 0 QQ
  unfold w_M_end at hw
  refine r_iload_n (j := 1) d_M_end_0 rfl ?_
  refine r_iconst d_M_end_1 kc_0 ?_
  refine r_aload_n (j := 0) d_M_end_2 rfl ?_
  obtain ⟨q1, hw⟩ := hw
  refine r_getI d_M_end_3 ok_12 (nle rfl) (nle rfl) rfl lf_M_141 q1 ?_
  refine r_callS (av := [ai v1, ai (0 : Int32), ai (gI h v0 1)]) (rest := []) d_M_end_6 mk_M_isIn ll_M_148 st_M_isIn rfl rfl (nle rfl) (s_M_isIn  hw (fun r3 h2 hw => ?_))
  show aW none m_M_end (d + 1) 9 [(0, ar v0), (1, ai v1)] [ai (b2i r3)] h2 0 0 QQ
  refine r_if_ne d_M_end_9 (fun w9 => ?_) (fun w9 => ?_)
  · replace hw := hw.2 (fun g9 => w9 (b2i_0.mpr g9))
    refine r_aload_n (j := 0) d_M_end_14 rfl ?_
    refine r_iload_n (j := 1) d_M_end_15 rfl ?_
    obtain ⟨q4, hw⟩ := hw
    refine r_putI d_M_end_16 ok_12 (nle rfl) (nle rfl) rfl lf_M_141 rfl q4 ?_
    refine r_iload_n (j := 1) d_M_end_19 rfl ?_
    exact r_ireturn d_M_end_20.1 rfl (hQ _ _ hw)
  · replace hw := hw.1 (b2i_0.mp w9)
    refine r_iconst d_M_end_12 kc_m1 ?_
    exact r_ireturn d_M_end_13.1 rfl (hQ _ _ hw)
set_option maxRecDepth 100000 in
set_option maxHeartbeats 4000000 in
theorem s_M_here {d : Nat} {v0 : Nat} {v1 : Int32} {h : Hp} {Q : Int32 → Hp → Prop} {QQ : Option AV → Hp → Prop} (hw : w_M_here v0 v1 h Q) (hQ : ∀ r9 h9, Q r9 h9 → QQ (some (ai r9)) h9) : aCall m_M_here d [ar v0, ai v1] h 0 0 QQ := by
  refine aCall_in pl_M_here (nle rfl) ?_
  show aW none m_M_here d 0 [(0, ar v0), (1, ai v1)] [] h 0 0 QQ
  unfold w_M_here at hw
  refine r_aload_n (j := 0) d_M_here_0 rfl ?_
  obtain ⟨q1, hw⟩ := hw
  refine r_getI d_M_here_1 ok_12 (nle rfl) (nle rfl) rfl lf_M_152 q1 ?_
  refine r_iload_n (j := 1) d_M_here_4 rfl ?_
  refine r_iadd d_M_here_5 ?_
  refine r_aload_n (j := 0) d_M_here_6 rfl ?_
  refine r_getI d_M_here_7 ok_12 (nle rfl) (nle rfl) rfl lf_M_155 q1 ?_
  refine r_icmp_ge d_M_here_10 (fun w9 => ?_) (fun w9 => ?_)
  · replace hw := hw.1 w9
    refine r_iconst d_M_here_27 kc_m1 ?_
    exact r_ireturn d_M_here_28.1 rfl (hQ _ _ hw)
  · replace hw := hw.2 w9
    refine r_aload_n (j := 0) d_M_here_13 rfl ?_
    refine r_getR d_M_here_14 ok_12 (nle rfl) (nle rfl) rfl lf_M_7 q1 ?_
    refine r_aload_n (j := 0) d_M_here_17 rfl ?_
    refine r_getI d_M_here_18 ok_12 (nle rfl) (nle rfl) rfl lf_M_152 q1 ?_
    refine r_iload_n (j := 1) d_M_here_21 rfl ?_
    refine r_iadd d_M_here_22 ?_
    obtain ⟨q2, hw⟩ := hw
    obtain ⟨q3, hw⟩ := hw
    refine r_iald d_M_here_23 q2 q3 ?_
    refine r_goto d_M_here_24 ?_
    exact r_ireturn d_M_here_28.1 rfl (hQ _ _ hw)
set_option maxRecDepth 100000 in
set_option maxHeartbeats 4000000 in
theorem s_M_isLetter {d : Nat} {v0 : Int32} {h : Hp} {Q : Bool → Hp → Prop} {QQ : Option AV → Hp → Prop} (hw : w_M_isLetter v0 h Q) (hQ : ∀ r9 h9, Q r9 h9 → QQ (some (ai (b2i r9))) h9) : aCall m_M_isLetter d [ai v0] h 0 0 QQ := by
  refine aCall_in pl_M_isLetter (nle rfl) ?_
  show aW none m_M_isLetter d 0 [(0, ai v0)] [] h 0 0 QQ
  unfold w_M_isLetter at hw
  refine r_iload_n (j := 0) d_M_isLetter_0 rfl ?_
  refine r_bipush d_M_isLetter_1 kb_97 ?_
  refine r_icmp_lt d_M_isLetter_3 (fun w9 => ?_) (fun w9 => ?_)
  · replace hw := hw.1 w9
    refine r_iconst d_M_isLetter_16 kc_0 ?_
    exact r_zreturn d_M_isLetter_17.1 rfl (Or.inl rfl) (hQ _ _ hw)
  · replace hw := hw.2 w9
    refine r_iload_n (j := 0) d_M_isLetter_6 rfl ?_
    refine r_bipush d_M_isLetter_7 kb_122 ?_
    refine r_icmp_gt d_M_isLetter_9 (fun w9 => ?_) (fun w9 => ?_)
    · replace hw := hw.1 w9
      refine r_iconst d_M_isLetter_16 kc_0 ?_
      exact r_zreturn d_M_isLetter_17.1 rfl (Or.inl rfl) (hQ _ _ hw)
    · replace hw := hw.2 w9
      refine r_iconst d_M_isLetter_12 kc_1 ?_
      refine r_goto d_M_isLetter_13 ?_
      exact r_zreturn d_M_isLetter_17.1 rfl (Or.inr rfl) (hQ _ _ hw)
set_option maxRecDepth 100000 in
set_option maxHeartbeats 4000000 in
theorem s_M_isDigit {d : Nat} {v0 : Int32} {h : Hp} {Q : Bool → Hp → Prop} {QQ : Option AV → Hp → Prop} (hw : w_M_isDigit v0 h Q) (hQ : ∀ r9 h9, Q r9 h9 → QQ (some (ai (b2i r9))) h9) : aCall m_M_isDigit d [ai v0] h 0 0 QQ := by
  refine aCall_in pl_M_isDigit (nle rfl) ?_
  show aW none m_M_isDigit d 0 [(0, ai v0)] [] h 0 0 QQ
  unfold w_M_isDigit at hw
  refine r_iload_n (j := 0) d_M_isDigit_0 rfl ?_
  refine r_bipush d_M_isDigit_1 kb_48 ?_
  refine r_icmp_lt d_M_isDigit_3 (fun w9 => ?_) (fun w9 => ?_)
  · replace hw := hw.1 w9
    refine r_iconst d_M_isDigit_16 kc_0 ?_
    exact r_zreturn d_M_isDigit_17.1 rfl (Or.inl rfl) (hQ _ _ hw)
  · replace hw := hw.2 w9
    refine r_iload_n (j := 0) d_M_isDigit_6 rfl ?_
    refine r_bipush d_M_isDigit_7 kb_57 ?_
    refine r_icmp_gt d_M_isDigit_9 (fun w9 => ?_) (fun w9 => ?_)
    · replace hw := hw.1 w9
      refine r_iconst d_M_isDigit_16 kc_0 ?_
      exact r_zreturn d_M_isDigit_17.1 rfl (Or.inl rfl) (hQ _ _ hw)
    · replace hw := hw.2 w9
      refine r_iconst d_M_isDigit_12 kc_1 ?_
      refine r_goto d_M_isDigit_13 ?_
      exact r_zreturn d_M_isDigit_17.1 rfl (Or.inr rfl) (hQ _ _ hw)
set_option maxRecDepth 100000 in
set_option maxHeartbeats 4000000 in
theorem s_M_goOn_B248 {d : Nat} (hd : 1 ≤ d + 1) {Q : Hp → Prop} {QQ : Option AV → Hp → Prop} (hQ : ∀ h9, Q h9 → QQ none h9) {v0 : Nat} {s0 : Nat} {s1 : Int32} {h : Hp} (hw : w_M_goOn_B248 Q  v0 s0 s1 h) : aW none m_M_goOn (d + 1) 248 [(0, ar v0)] [ar s0, ai s1] h 0 0 QQ := by
  unfold w_M_goOn_B248 at hw
  obtain ⟨q27, hw⟩ := hw
  refine r_putI d_M_goOn_248 ok_12 (nle rfl) (nle rfl) rfl lf_M_172 rfl q27 ?_
  refine r_iconst d_M_goOn_251 kc_1 ?_
  refine r_istore_n (ls2 := [(1, ai (1 : Int32)), (0, ar v0)]) d_M_goOn_252 (nle rfl) rfl ?_
  refine r_aload_n (j := 1) d_M_goOn_253 rfl ?_
  refine r_dup d_M_goOn_254 rfl ?_
  obtain ⟨q28, hw⟩ := hw
  refine r_getI d_M_goOn_255 ok_12 (nle rfl) (nle rfl) rfl lf_M_152 q28 ?_
  refine r_iload_n (j := 0) d_M_goOn_258 rfl ?_
  refine r_iadd d_M_goOn_259 ?_
  refine r_putI d_M_goOn_260 ok_12 (nle rfl) (nle rfl) rfl lf_M_152 rfl q28 ?_
  exact r_return d_M_goOn_263.1 rfl (hQ _ hw)
set_option maxRecDepth 100000 in
set_option maxHeartbeats 4000000 in
theorem s_M_goOn_B212 {d : Nat} (hd : 1 ≤ d + 1) {Q : Hp → Prop} {QQ : Option AV → Hp → Prop} (hQ : ∀ h9, Q h9 → QQ none h9) {v0 : Nat} {v1 : Int32} {s0 : Nat} {s1 : Int32} {h : Hp} (hw : w_M_goOn_B212 Q  v0 v1 s0 s1 h) : aW none m_M_goOn (d + 1) 212 [(0, ar v0), (1, ai v1)] [ar s0, ai s1] h 0 0 QQ := by
  unfold w_M_goOn_B212 at hw
  obtain ⟨q34, hw⟩ := hw
  refine r_putI d_M_goOn_212 ok_12 (nle rfl) (nle rfl) rfl lf_M_172 rfl q34 ?_
  refine r_goto d_M_goOn_215 ?_
  refine r_aload_n (j := 0) d_M_goOn_253 rfl ?_
  refine r_dup d_M_goOn_254 rfl ?_
  obtain ⟨q35, hw⟩ := hw
  refine r_getI d_M_goOn_255 ok_12 (nle rfl) (nle rfl) rfl lf_M_152 q35 ?_
  refine r_iload_n (j := 1) d_M_goOn_258 rfl ?_
  refine r_iadd d_M_goOn_259 ?_
  refine r_putI d_M_goOn_260 ok_12 (nle rfl) (nle rfl) rfl lf_M_152 rfl q35 ?_
  exact r_return d_M_goOn_263.1 rfl (hQ _ hw)
set_option maxRecDepth 100000 in
set_option maxHeartbeats 4000000 in
theorem s_M_goOn_B207 {d : Nat} (hd : 1 ≤ d + 1) {Q : Hp → Prop} {QQ : Option AV → Hp → Prop} (hQ : ∀ h9, Q h9 → QQ none h9) {v0 : Nat} {v1 : Int32} {s0 : Nat} {h : Hp} (hw : w_M_goOn_B207 Q  v0 v1 s0 h) : aW none m_M_goOn (d + 1) 207 [(0, ar v0), (1, ai v1)] [ar s0] h 0 0 QQ := by
  unfold w_M_goOn_B207 at hw
  refine r_iconst d_M_goOn_207 kc_5 ?_
  refine r_goto d_M_goOn_208 ?_
  exact s_M_goOn_B212 hd hQ  hw
set_option maxRecDepth 100000 in
set_option maxHeartbeats 4000000 in
theorem s_M_goOn_L148 {d : Nat} (hd : 1 ≤ d + 1) {Q : Hp → Prop} {QQ : Option AV → Hp → Prop} (hQ : ∀ h9, Q h9 → QQ none h9) {v0 : Nat} : ∀ (n : Nat) (v1 : Int32) (h : Hp), w_M_goOn_L148 Q  v0 n v1 h → aW none m_M_goOn (d + 1) 148 [(0, ar v0), (1, ai v1)] [] h 0 0 QQ := by
  intro n
  induction n with
  | zero => intro v1 h hw; exact hw.elim
  | succ n ih =>
    intro v1 h hw
    unfold w_M_goOn_L148 at hw
    refine r_aload_n (j := 0) d_M_goOn_148 rfl ?_
    refine r_iload_n (j := 1) d_M_goOn_149 rfl ?_
    obtain ⟨q31, hw⟩ := hw
    refine r_callV (av := [ai v1]) (rest := []) (ci := 12) d_M_goOn_150 mk_M_here ll_M_158 im_M_here se_M_here rfl (nle rfl) rfl rfl (nle rfl) q31 (s_M_here  hw (fun r30 h29 hw => ?_))
    show aW none m_M_goOn (d + 1) 153 [(0, ar v0), (1, ai v1)] [ai r30] h29 0 0 QQ
    refine r_callS (av := [ai r30]) (rest := []) d_M_goOn_153 mk_M_isDigit ll_M_179 st_M_isDigit rfl rfl (nle rfl) (s_M_isDigit  hw (fun r33 h32 hw => ?_))
    show aW none m_M_goOn (d + 1) 156 [(0, ar v0), (1, ai v1)] [ai (b2i r33)] h32 0 0 QQ
    refine r_if_eq d_M_goOn_156 (fun w9 => ?_) (fun w9 => ?_)
    · replace hw := hw.1 (b2i_0.mp w9)
      refine r_aload_n (j := 0) d_M_goOn_190 rfl ?_
      refine r_iload_n (j := 1) d_M_goOn_191 rfl ?_
      refine r_iconst d_M_goOn_192 kc_3 ?_
      refine r_icmp_gt d_M_goOn_193 (fun w9 => ?_) (fun w9 => ?_)
      · replace hw := hw.1 w9
        exact s_M_goOn_B207 hd hQ  hw
      · replace hw := hw.2 w9
        refine r_aload_n (j := 0) d_M_goOn_196 rfl ?_
        refine r_iload_n (j := 1) d_M_goOn_197 rfl ?_
        obtain ⟨q38, hw⟩ := hw
        refine r_callV (av := [ai v1]) (rest := [ar v0]) (ci := 12) d_M_goOn_198 mk_M_here ll_M_158 im_M_here se_M_here rfl (nle rfl) rfl rfl (nle rfl) q38 (s_M_here  hw (fun r37 h36 hw => ?_))
        show aW none m_M_goOn (d + 1) 201 [(0, ar v0), (1, ai v1)] [ai r37, ar v0] h36 0 0 QQ
        refine r_callS (av := [ai r37]) (rest := [ar v0]) d_M_goOn_201 mk_M_isLetter ll_M_175 st_M_isLetter rfl rfl (nle rfl) (s_M_isLetter  hw (fun r40 h39 hw => ?_))
        show aW none m_M_goOn (d + 1) 204 [(0, ar v0), (1, ai v1)] [ai (b2i r40), ar v0] h39 0 0 QQ
        refine r_if_eq d_M_goOn_204 (fun w9 => ?_) (fun w9 => ?_)
        · replace hw := hw.1 (b2i_0.mp w9)
          refine r_iconst d_M_goOn_211 kc_2 ?_
          exact s_M_goOn_B212 hd hQ  hw
        · replace hw := hw.2 (fun g9 => w9 (b2i_0.mpr g9))
          exact s_M_goOn_B207 hd hQ  hw
    · replace hw := hw.2 (fun g9 => w9 (b2i_0.mpr g9))
      refine r_iload_n (j := 1) d_M_goOn_159 rfl ?_
      refine r_iconst d_M_goOn_160 kc_3 ?_
      refine r_icmp_ge d_M_goOn_161 (fun w9 => ?_) (fun w9 => ?_)
      · replace hw := hw.1 w9
        refine r_iinc (j := 1) (ls2 := [(1, ai (v1 + (1 : Int32))), (0, ar v0)]) d_M_goOn_184 rfl (congrArg (HAdd.hAdd v1) kc_1) (nle rfl) rfl ?_
        refine r_goto d_M_goOn_187 ?_
        refine r_pick (ls2 := [(0, ar v0), (1, ai (v1 + (1 : Int32)))]) [1, 0] rfl ?_
        exact ih _ _ hw
      · replace hw := hw.2 w9
        refine r_aload_n (j := 0) d_M_goOn_164 rfl ?_
        refine r_bipush d_M_goOn_165 kb_10 ?_
        refine r_aload_n (j := 0) d_M_goOn_167 rfl ?_
        obtain ⟨q41, hw⟩ := hw
        refine r_getI d_M_goOn_168 ok_12 (nle rfl) (nle rfl) rfl lf_M_169 q41 ?_
        refine r_imul d_M_goOn_171 ?_
        refine r_aload_n (j := 0) d_M_goOn_172 rfl ?_
        refine r_iload_n (j := 1) d_M_goOn_173 rfl ?_
        refine r_callV (av := [ai v1]) (rest := [ai ((10 : Int32) * (gI h32 v0 6)), ar v0]) (ci := 12) d_M_goOn_174 mk_M_here ll_M_158 im_M_here se_M_here rfl (nle rfl) rfl rfl (nle rfl) q41 (s_M_here  hw (fun r43 h42 hw => ?_))
        show aW none m_M_goOn (d + 1) 177 [(0, ar v0), (1, ai v1)] [ai r43, ai ((10 : Int32) * (gI h32 v0 6)), ar v0] h42 0 0 QQ
        refine r_iadd d_M_goOn_177 ?_
        refine r_bipush d_M_goOn_178 kb_48 ?_
        refine r_isub d_M_goOn_180 ?_
        obtain ⟨q44, hw⟩ := hw
        refine r_putI d_M_goOn_181 ok_12 (nle rfl) (nle rfl) rfl lf_M_169 rfl q44 ?_
        refine r_iinc (j := 1) (ls2 := [(1, ai (v1 + (1 : Int32))), (0, ar v0)]) d_M_goOn_184 rfl (congrArg (HAdd.hAdd v1) kc_1) (nle rfl) rfl ?_
        refine r_goto d_M_goOn_187 ?_
        refine r_pick (ls2 := [(0, ar v0), (1, ai (v1 + (1 : Int32)))]) [1, 0] rfl ?_
        exact ih _ _ hw
set_option maxRecDepth 100000 in
set_option maxHeartbeats 4000000 in
theorem s_M_goOn_B131 {d : Nat} (hd : 1 ≤ d + 1) {Q : Hp → Prop} {QQ : Option AV → Hp → Prop} (hQ : ∀ h9, Q h9 → QQ none h9) {v0 : Nat} {v1 : Int32} {s0 : Nat} {s1 : Int32} {h : Hp} (hw : w_M_goOn_B131 Q  v0 v1 s0 s1 h) : aW none m_M_goOn (d + 1) 131 [(0, ar v0), (1, ai v1)] [ar s0, ai s1] h 0 0 QQ := by
  unfold w_M_goOn_B131 at hw
  obtain ⟨q51, hw⟩ := hw
  refine r_putI d_M_goOn_131 ok_12 (nle rfl) (nle rfl) rfl lf_M_172 rfl q51 ?_
  refine r_goto d_M_goOn_134 ?_
  refine r_aload_n (j := 0) d_M_goOn_253 rfl ?_
  refine r_dup d_M_goOn_254 rfl ?_
  obtain ⟨q52, hw⟩ := hw
  refine r_getI d_M_goOn_255 ok_12 (nle rfl) (nle rfl) rfl lf_M_152 q52 ?_
  refine r_iload_n (j := 1) d_M_goOn_258 rfl ?_
  refine r_iadd d_M_goOn_259 ?_
  refine r_putI d_M_goOn_260 ok_12 (nle rfl) (nle rfl) rfl lf_M_152 rfl q52 ?_
  exact r_return d_M_goOn_263.1 rfl (hQ _ hw)
set_option maxRecDepth 100000 in
set_option maxHeartbeats 4000000 in
theorem s_M_goOn_L78 {d : Nat} (hd : 1 ≤ d + 1) {Q : Hp → Prop} {QQ : Option AV → Hp → Prop} (hQ : ∀ h9, Q h9 → QQ none h9) {v0 : Nat} : ∀ (n : Nat) (v1 : Int32) (h : Hp), w_M_goOn_L78 Q  v0 n v1 h → aW none m_M_goOn (d + 1) 78 [(0, ar v0), (1, ai v1)] [] h 0 0 QQ := by
  intro n
  induction n with
  | zero => intro v1 h hw; exact hw.elim
  | succ n ih =>
    intro v1 h hw
    unfold w_M_goOn_L78 at hw
    refine r_aload_n (j := 0) d_M_goOn_78 rfl ?_
    refine r_iload_n (j := 1) d_M_goOn_79 rfl ?_
    obtain ⟨q48, hw⟩ := hw
    refine r_callV (av := [ai v1]) (rest := []) (ci := 12) d_M_goOn_80 mk_M_here ll_M_158 im_M_here se_M_here rfl (nle rfl) rfl rfl (nle rfl) q48 (s_M_here  hw (fun r47 h46 hw => ?_))
    show aW none m_M_goOn (d + 1) 83 [(0, ar v0), (1, ai v1)] [ai r47] h46 0 0 QQ
    refine r_callS (av := [ai r47]) (rest := []) d_M_goOn_83 mk_M_isLetter ll_M_175 st_M_isLetter rfl rfl (nle rfl) (s_M_isLetter  hw (fun r50 h49 hw => ?_))
    show aW none m_M_goOn (d + 1) 86 [(0, ar v0), (1, ai v1)] [ai (b2i r50)] h49 0 0 QQ
    refine r_if_eq d_M_goOn_86 (fun w9 => ?_) (fun w9 => ?_)
    · replace hw := hw.1 (b2i_0.mp w9)
      refine r_aload_n (j := 0) d_M_goOn_119 rfl ?_
      refine r_iload_n (j := 1) d_M_goOn_120 rfl ?_
      refine r_bipush d_M_goOn_121 kb_8 ?_
      refine r_icmp_le d_M_goOn_123 (fun w9 => ?_) (fun w9 => ?_)
      · replace hw := hw.1 w9
        refine r_iconst d_M_goOn_130 kc_1 ?_
        exact s_M_goOn_B131 hd hQ  hw
      · replace hw := hw.2 w9
        refine r_iconst d_M_goOn_126 kc_5 ?_
        refine r_goto d_M_goOn_127 ?_
        exact s_M_goOn_B131 hd hQ  hw
    · replace hw := hw.2 (fun g9 => w9 (b2i_0.mpr g9))
      refine r_iload_n (j := 1) d_M_goOn_89 rfl ?_
      refine r_bipush d_M_goOn_90 kb_8 ?_
      refine r_icmp_ge d_M_goOn_92 (fun w9 => ?_) (fun w9 => ?_)
      · replace hw := hw.1 w9
        refine r_iinc (j := 1) (ls2 := [(1, ai (v1 + (1 : Int32))), (0, ar v0)]) d_M_goOn_113 rfl (congrArg (HAdd.hAdd v1) kc_1) (nle rfl) rfl ?_
        refine r_goto d_M_goOn_116 ?_
        refine r_pick (ls2 := [(0, ar v0), (1, ai (v1 + (1 : Int32)))]) [1, 0] rfl ?_
        exact ih _ _ hw
      · replace hw := hw.2 w9
        refine r_aload_n (j := 0) d_M_goOn_95 rfl ?_
        refine r_aload_n (j := 0) d_M_goOn_96 rfl ?_
        obtain ⟨q53, hw⟩ := hw
        refine r_getL d_M_goOn_97 ok_12 (nle rfl) (nle rfl) rfl lf_M_165 q53 ?_
        refine r_bipush d_M_goOn_100 kb_8 ?_
        refine r_lshl d_M_goOn_102 ?_
        refine r_aload_n (j := 0) d_M_goOn_103 rfl ?_
        refine r_iload_n (j := 1) d_M_goOn_104 rfl ?_
        refine r_callV (av := [ai v1]) (rest := [al (jlshl (gL h49 v0 11) (8 : Int32)), ar v0]) (ci := 12) d_M_goOn_105 mk_M_here ll_M_158 im_M_here se_M_here rfl (nle rfl) rfl rfl (nle rfl) q53 (s_M_here  hw (fun r55 h54 hw => ?_))
        show aW none m_M_goOn (d + 1) 108 [(0, ar v0), (1, ai v1)] [ai r55, al (jlshl (gL h49 v0 11) (8 : Int32)), ar v0] h54 0 0 QQ
        refine r_i2l d_M_goOn_108 ?_
        refine r_lor d_M_goOn_109 ?_
        obtain ⟨q56, hw⟩ := hw
        refine r_putL d_M_goOn_110 ok_12 (nle rfl) (nle rfl) rfl lf_M_165 rfl q56 ?_
        refine r_iinc (j := 1) (ls2 := [(1, ai (v1 + (1 : Int32))), (0, ar v0)]) d_M_goOn_113 rfl (congrArg (HAdd.hAdd v1) kc_1) (nle rfl) rfl ?_
        refine r_goto d_M_goOn_116 ?_
        refine r_pick (ls2 := [(0, ar v0), (1, ai (v1 + (1 : Int32)))]) [1, 0] rfl ?_
        exact ih _ _ hw
set_option maxRecDepth 100000 in
set_option maxHeartbeats 4000000 in
theorem s_M_goOn_L0 {d : Nat} (hd : 1 ≤ d + 1) {Q : Hp → Prop} {QQ : Option AV → Hp → Prop} (hQ : ∀ h9, Q h9 → QQ none h9) {v0 : Nat} : ∀ (n : Nat) (h : Hp), w_M_goOn_L0 Q  v0 n h → aW none m_M_goOn (d + 1) 0 [(0, ar v0)] [] h 0 0 QQ := by
  intro n
  induction n with
  | zero => intro h hw; exact hw.elim
  | succ n ih =>
    intro h hw
    unfold w_M_goOn_L0 at hw
    refine r_aload_n (j := 0) d_M_goOn_0 rfl ?_
    refine r_iconst d_M_goOn_1 kc_0 ?_
    obtain ⟨q3, hw⟩ := hw
    refine r_callV (av := [ai (0 : Int32)]) (rest := []) (ci := 12) d_M_goOn_2 mk_M_here ll_M_158 im_M_here se_M_here rfl (nle rfl) rfl rfl (nle rfl) q3 (s_M_here  hw (fun r2 h1 hw => ?_))
    show aW none m_M_goOn (d + 1) 5 [(0, ar v0)] [ai r2] h1 0 0 QQ
    refine r_bipush d_M_goOn_5 kb_32 ?_
    refine r_icmp_eq d_M_goOn_7 (fun w9 => ?_) (fun w9 => ?_)
    · replace hw := hw.1 w9
      refine r_aload_n (j := 0) d_M_goOn_20 rfl ?_
      refine r_dup d_M_goOn_21 rfl ?_
      obtain ⟨q4, hw⟩ := hw
      refine r_getI d_M_goOn_22 ok_12 (nle rfl) (nle rfl) rfl lf_M_152 q4 ?_
      refine r_iconst d_M_goOn_25 kc_1 ?_
      refine r_iadd d_M_goOn_26 ?_
      refine r_putI d_M_goOn_27 ok_12 (nle rfl) (nle rfl) rfl lf_M_152 rfl q4 ?_
      refine r_goto d_M_goOn_30 ?_
      exact ih _ hw
    · replace hw := hw.2 w9
      refine r_aload_n (j := 0) d_M_goOn_10 rfl ?_
      refine r_iconst d_M_goOn_11 kc_0 ?_
      obtain ⟨q7, hw⟩ := hw
      refine r_callV (av := [ai (0 : Int32)]) (rest := []) (ci := 12) d_M_goOn_12 mk_M_here ll_M_158 im_M_here se_M_here rfl (nle rfl) rfl rfl (nle rfl) q7 (s_M_here  hw (fun r6 h5 hw => ?_))
      show aW none m_M_goOn (d + 1) 15 [(0, ar v0)] [ai r6] h5 0 0 QQ
      refine r_bipush d_M_goOn_15 kb_10 ?_
      refine r_icmp_ne d_M_goOn_17 (fun w9 => ?_) (fun w9 => ?_)
      · replace hw := hw.2 w9
        refine r_aload_n (j := 0) d_M_goOn_33 rfl ?_
        refine r_aload_n (j := 0) d_M_goOn_34 rfl ?_
        obtain ⟨q8, hw⟩ := hw
        refine r_getI d_M_goOn_35 ok_12 (nle rfl) (nle rfl) rfl lf_M_152 q8 ?_
        refine r_putI d_M_goOn_38 ok_12 (nle rfl) (nle rfl) rfl lf_M_162 rfl q8 ?_
        refine r_iconst d_M_goOn_41 kc_0 ?_
        refine r_istore_n (ls2 := [(1, ai (0 : Int32)), (0, ar v0)]) d_M_goOn_42 (nle rfl) rfl ?_
        refine r_aload_n (j := 1) d_M_goOn_43 rfl ?_
        refine r_lconst d_M_goOn_44 kl_0 ?_
        refine r_putL d_M_goOn_45 ok_12 (nle rfl) (nle rfl) rfl lf_M_165 rfl q8 ?_
        refine r_aload_n (j := 1) d_M_goOn_48 rfl ?_
        refine r_iconst d_M_goOn_49 kc_0 ?_
        refine r_putI d_M_goOn_50 ok_12 (nle rfl) (nle rfl) rfl lf_M_169 rfl q8 ?_
        refine r_aload_n (j := 1) d_M_goOn_53 rfl ?_
        refine r_iconst d_M_goOn_54 kc_0 ?_
        refine r_callV (av := [ai (0 : Int32)]) (rest := []) (ci := 12) d_M_goOn_55 mk_M_here ll_M_158 im_M_here se_M_here rfl (nle rfl) rfl rfl (nle rfl) q8 (s_M_here  hw (fun r10 h9 hw => ?_))
        show aW none m_M_goOn (d + 1) 58 [(1, ai (0 : Int32)), (0, ar v0)] [ai r10] h9 0 0 QQ
        refine r_if_ge d_M_goOn_58 (fun w9 => ?_) (fun w9 => ?_)
        · replace hw := hw.1 w9
          refine r_aload_n (j := 1) d_M_goOn_67 rfl ?_
          refine r_iconst d_M_goOn_68 kc_0 ?_
          obtain ⟨q13, hw⟩ := hw
          refine r_callV (av := [ai (0 : Int32)]) (rest := []) (ci := 12) d_M_goOn_69 mk_M_here ll_M_158 im_M_here se_M_here rfl (nle rfl) rfl rfl (nle rfl) q13 (s_M_here  hw (fun r12 h11 hw => ?_))
          show aW none m_M_goOn (d + 1) 72 [(1, ai (0 : Int32)), (0, ar v0)] [ai r12] h11 0 0 QQ
          refine r_callS (av := [ai r12]) (rest := []) d_M_goOn_72 mk_M_isLetter ll_M_175 st_M_isLetter rfl rfl (nle rfl) (s_M_isLetter  hw (fun r15 h14 hw => ?_))
          show aW none m_M_goOn (d + 1) 75 [(1, ai (0 : Int32)), (0, ar v0)] [ai (b2i r15)] h14 0 0 QQ
          refine r_if_eq d_M_goOn_75 (fun w9 => ?_) (fun w9 => ?_)
          · replace hw := hw.1 (b2i_0.mp w9)
            refine r_aload_n (j := 1) d_M_goOn_137 rfl ?_
            refine r_iconst d_M_goOn_138 kc_0 ?_
            obtain ⟨q18, hw⟩ := hw
            refine r_callV (av := [ai (0 : Int32)]) (rest := []) (ci := 12) d_M_goOn_139 mk_M_here ll_M_158 im_M_here se_M_here rfl (nle rfl) rfl rfl (nle rfl) q18 (s_M_here  hw (fun r17 h16 hw => ?_))
            show aW none m_M_goOn (d + 1) 142 [(1, ai (0 : Int32)), (0, ar v0)] [ai r17] h16 0 0 QQ
            refine r_callS (av := [ai r17]) (rest := []) d_M_goOn_142 mk_M_isDigit ll_M_179 st_M_isDigit rfl rfl (nle rfl) (s_M_isDigit  hw (fun r20 h19 hw => ?_))
            show aW none m_M_goOn (d + 1) 145 [(1, ai (0 : Int32)), (0, ar v0)] [ai (b2i r20)] h19 0 0 QQ
            refine r_if_eq d_M_goOn_145 (fun w9 => ?_) (fun w9 => ?_)
            · replace hw := hw.1 (b2i_0.mp w9)
              refine r_aload_n (j := 1) d_M_goOn_218 rfl ?_
              refine r_aload_n (j := 1) d_M_goOn_219 rfl ?_
              refine r_iconst d_M_goOn_220 kc_0 ?_
              obtain ⟨q23, hw⟩ := hw
              refine r_callV (av := [ai (0 : Int32)]) (rest := [ar v0]) (ci := 12) d_M_goOn_221 mk_M_here ll_M_158 im_M_here se_M_here rfl (nle rfl) rfl rfl (nle rfl) q23 (s_M_here  hw (fun r22 h21 hw => ?_))
              show aW none m_M_goOn (d + 1) 224 [(1, ai (0 : Int32)), (0, ar v0)] [ai r22, ar v0] h21 0 0 QQ
              refine r_bipush d_M_goOn_224 kb_59 ?_
              refine r_icmp_ne d_M_goOn_226 (fun w9 => ?_) (fun w9 => ?_)
              · replace hw := hw.2 w9
                refine r_aload_n (j := 1) d_M_goOn_233 rfl ?_
                refine r_iconst d_M_goOn_234 kc_0 ?_
                obtain ⟨q26, hw⟩ := hw
                refine r_callV (av := [ai (0 : Int32)]) (rest := [ar v0]) (ci := 12) d_M_goOn_235 mk_M_here ll_M_158 im_M_here se_M_here rfl (nle rfl) rfl rfl (nle rfl) q26 (s_M_here  hw (fun r25 h24 hw => ?_))
                show aW none m_M_goOn (d + 1) 238 [(1, ai (0 : Int32)), (0, ar v0)] [ai r25, ar v0] h24 0 0 QQ
                refine r_bipush d_M_goOn_238 kb_45 ?_
                refine r_icmp_ne d_M_goOn_240 (fun w9 => ?_) (fun w9 => ?_)
                · replace hw := hw.2 w9
                  refine r_iconst d_M_goOn_247 kc_5 ?_
                  refine r_pick (ls2 := [(0, ar v0)]) [1] rfl ?_
                  exact s_M_goOn_B248 hd hQ  hw
                · replace hw := hw.1 w9
                  refine r_iconst d_M_goOn_243 kc_4 ?_
                  refine r_goto d_M_goOn_244 ?_
                  refine r_pick (ls2 := [(0, ar v0)]) [1] rfl ?_
                  exact s_M_goOn_B248 hd hQ  hw
              · replace hw := hw.1 w9
                refine r_iconst d_M_goOn_229 kc_3 ?_
                refine r_goto d_M_goOn_230 ?_
                refine r_pick (ls2 := [(0, ar v0)]) [1] rfl ?_
                exact s_M_goOn_B248 hd hQ  hw
            · replace hw := hw.2 (fun g9 => w9 (b2i_0.mpr g9))
              obtain ⟨n45, hw⟩ := hw
              refine r_pick (ls2 := [(0, ar v0), (1, ai (0 : Int32))]) [1, 0] rfl ?_
              exact s_M_goOn_L148 hd hQ  n45 _ _ hw
          · replace hw := hw.2 (fun g9 => w9 (b2i_0.mpr g9))
            obtain ⟨n57, hw⟩ := hw
            refine r_pick (ls2 := [(0, ar v0), (1, ai (0 : Int32))]) [1, 0] rfl ?_
            exact s_M_goOn_L78 hd hQ  n57 _ _ hw
        · replace hw := hw.2 w9
          refine r_aload_n (j := 1) d_M_goOn_61 rfl ?_
          refine r_iconst d_M_goOn_62 kc_0 ?_
          obtain ⟨q58, hw⟩ := hw
          refine r_putI d_M_goOn_63 ok_12 (nle rfl) (nle rfl) rfl lf_M_172 rfl q58 ?_
          exact r_return d_M_goOn_66.1 rfl (hQ _ hw)
      · replace hw := hw.1 w9
        refine r_aload_n (j := 0) d_M_goOn_20 rfl ?_
        refine r_dup d_M_goOn_21 rfl ?_
        obtain ⟨q59, hw⟩ := hw
        refine r_getI d_M_goOn_22 ok_12 (nle rfl) (nle rfl) rfl lf_M_152 q59 ?_
        refine r_iconst d_M_goOn_25 kc_1 ?_
        refine r_iadd d_M_goOn_26 ?_
        refine r_putI d_M_goOn_27 ok_12 (nle rfl) (nle rfl) rfl lf_M_152 rfl q59 ?_
        refine r_goto d_M_goOn_30 ?_
        exact ih _ hw
set_option maxRecDepth 100000 in
set_option maxHeartbeats 4000000 in
theorem s_M_goOn {d : Nat} (hd : 1 ≤ d) {v0 : Nat} {h : Hp} {Q : Hp → Prop} {QQ : Option AV → Hp → Prop} (hw : w_M_goOn v0 h Q) (hQ : ∀ h9, Q h9 → QQ none h9) : aCall m_M_goOn d [ar v0] h 0 0 QQ := by
  obtain ⟨d, rfl⟩ : ∃ d9, d = d9 + 1 := ⟨d - 1, by omega⟩
  refine aCall_in pl_M_goOn (nle rfl) ?_
  show aW none m_M_goOn (d + 1) 0 [(0, ar v0)] [] h 0 0 QQ
  unfold w_M_goOn at hw
  obtain ⟨n60, hw⟩ := hw
  exact s_M_goOn_L0 hd hQ  n60 _ hw
set_option maxRecDepth 100000 in
set_option maxHeartbeats 4000000 in
theorem s_M_wrong {d : Nat} {v0 : Nat} {v1 : Int32} {h : Hp} {Q : Hp → Prop} {QQ : Option AV → Hp → Prop} (hw : w_M_wrong v0 v1 h Q) (hQ : ∀ h9, Q h9 → QQ none h9) : aCall m_M_wrong d [ar v0, ai v1] h 0 0 QQ := by
  refine aCall_in pl_M_wrong (nle rfl) ?_
  show aW none m_M_wrong d 0 [(0, ar v0), (1, ai v1)] [] h 0 0 QQ
  unfold w_M_wrong at hw
  refine r_aload_n (j := 0) d_M_wrong_0 rfl ?_
  obtain ⟨q1, hw⟩ := hw
  refine r_getI d_M_wrong_1 ok_12 (nle rfl) (nle rfl) rfl lf_M_182 q1 ?_
  refine r_if_le d_M_wrong_4 (fun w9 => ?_) (fun w9 => ?_)
  · replace hw := hw.1 w9
    refine r_aload_n (j := 0) d_M_wrong_8 rfl ?_
    refine r_aload_n (j := 0) d_M_wrong_9 rfl ?_
    refine r_getI d_M_wrong_10 ok_12 (nle rfl) (nle rfl) rfl lf_M_172 q1 ?_
    refine r_iconst d_M_wrong_13 kc_5 ?_
    refine r_icmp_ne d_M_wrong_14 (fun w9 => ?_) (fun w9 => ?_)
    · replace hw := hw.2 w9
      refine r_iload_n (j := 1) d_M_wrong_21 rfl ?_
      refine r_putI d_M_wrong_22 ok_12 (nle rfl) (nle rfl) rfl lf_M_182 rfl q1 ?_
      refine r_aload_n (j := 0) d_M_wrong_25 rfl ?_
      refine r_aload_n (j := 0) d_M_wrong_26 rfl ?_
      refine r_getI d_M_wrong_27 ok_12 (nle rfl) (nle rfl) rfl lf_M_162 q1 ?_
      refine r_putI d_M_wrong_30 ok_12 (nle rfl) (nle rfl) rfl lf_M_13 rfl q1 ?_
      exact r_return d_M_wrong_33.1 rfl (hQ _ hw)
    · replace hw := hw.1 w9
      refine r_iconst d_M_wrong_17 kc_1 ?_
      refine r_goto d_M_wrong_18 ?_
      refine r_putI d_M_wrong_22 ok_12 (nle rfl) (nle rfl) rfl lf_M_182 rfl q1 ?_
      refine r_aload_n (j := 0) d_M_wrong_25 rfl ?_
      refine r_aload_n (j := 0) d_M_wrong_26 rfl ?_
      refine r_getI d_M_wrong_27 ok_12 (nle rfl) (nle rfl) rfl lf_M_162 q1 ?_
      refine r_putI d_M_wrong_30 ok_12 (nle rfl) (nle rfl) rfl lf_M_13 rfl q1 ?_
      exact r_return d_M_wrong_33.1 rfl (hQ _ hw)
  · replace hw := hw.2 w9
    exact r_return d_M_wrong_7.1 rfl (hQ _ hw)
set_option maxRecDepth 100000 in
set_option maxHeartbeats 4000000 in
theorem s_M_isGood {d : Nat} {v0 : Nat} {h : Hp} {Q : Bool → Hp → Prop} {QQ : Option AV → Hp → Prop} (hw : w_M_isGood v0 h Q) (hQ : ∀ r9 h9, Q r9 h9 → QQ (some (ai (b2i r9))) h9) : aCall m_M_isGood d [ar v0] h 0 0 QQ := by
  refine aCall_in pl_M_isGood (nle rfl) ?_
  show aW none m_M_isGood d 0 [(0, ar v0)] [] h 0 0 QQ
  unfold w_M_isGood at hw
  refine r_aload_n (j := 0) d_M_isGood_0 rfl ?_
  obtain ⟨q1, hw⟩ := hw
  refine r_getI d_M_isGood_1 ok_12 (nle rfl) (nle rfl) rfl lf_M_182 q1 ?_
  refine r_if_ne d_M_isGood_4 (fun w9 => ?_) (fun w9 => ?_)
  · replace hw := hw.2 w9
    refine r_iconst d_M_isGood_11 kc_0 ?_
    exact r_zreturn d_M_isGood_12.1 rfl (Or.inl rfl) (hQ _ _ hw)
  · replace hw := hw.1 w9
    refine r_iconst d_M_isGood_7 kc_1 ?_
    refine r_goto d_M_isGood_8 ?_
    exact r_zreturn d_M_isGood_12.1 rfl (Or.inr rfl) (hQ _ _ hw)
set_option maxRecDepth 100000 in
set_option maxHeartbeats 4000000 in
theorem s_M_isWord {d : Nat} {v0 : Nat} {v1 : Int64} {h : Hp} {Q : Bool → Hp → Prop} {QQ : Option AV → Hp → Prop} (hw : w_M_isWord v0 v1 h Q) (hQ : ∀ r9 h9, Q r9 h9 → QQ (some (ai (b2i r9))) h9) : aCall m_M_isWord d [ar v0, al v1] h 0 0 QQ := by
  refine aCall_in pl_M_isWord (nle rfl) ?_
  show aW none m_M_isWord d 0 [(0, ar v0), (1, al v1)] [] h 0 0 QQ
  unfold w_M_isWord at hw
  refine r_aload_n (j := 0) d_M_isWord_0 rfl ?_
  obtain ⟨q1, hw⟩ := hw
  refine r_getI d_M_isWord_1 ok_12 (nle rfl) (nle rfl) rfl lf_M_182 q1 ?_
  refine r_if_ne d_M_isWord_4 (fun w9 => ?_) (fun w9 => ?_)
  · replace hw := hw.2 w9
    refine r_iconst d_M_isWord_28 kc_0 ?_
    exact r_zreturn d_M_isWord_29.1 rfl (Or.inl rfl) (hQ _ _ hw)
  · replace hw := hw.1 w9
    refine r_aload_n (j := 0) d_M_isWord_7 rfl ?_
    refine r_getI d_M_isWord_8 ok_12 (nle rfl) (nle rfl) rfl lf_M_172 q1 ?_
    refine r_iconst d_M_isWord_11 kc_1 ?_
    refine r_icmp_ne d_M_isWord_12 (fun w9 => ?_) (fun w9 => ?_)
    · replace hw := hw.2 w9
      refine r_iconst d_M_isWord_28 kc_0 ?_
      exact r_zreturn d_M_isWord_29.1 rfl (Or.inl rfl) (hQ _ _ hw)
    · replace hw := hw.1 w9
      refine r_aload_n (j := 0) d_M_isWord_15 rfl ?_
      refine r_getL d_M_isWord_16 ok_12 (nle rfl) (nle rfl) rfl lf_M_165 q1 ?_
      refine r_lload_n (j := 1) d_M_isWord_19 rfl ?_
      refine r_lcmp d_M_isWord_20 ?_
      refine r_if_ne d_M_isWord_21 (fun w9 => ?_) (fun w9 => ?_)
      · replace hw := hw.2 (fun g9 => w9 ((lg_cmp_eq _ _).mpr g9))
        refine r_iconst d_M_isWord_28 kc_0 ?_
        exact r_zreturn d_M_isWord_29.1 rfl (Or.inl rfl) (hQ _ _ hw)
      · replace hw := hw.1 ((lg_cmp_eq _ _).mp w9)
        refine r_iconst d_M_isWord_24 kc_1 ?_
        refine r_goto d_M_isWord_25 ?_
        exact r_zreturn d_M_isWord_29.1 rfl (Or.inr rfl) (hQ _ _ hw)
set_option maxRecDepth 100000 in
set_option maxHeartbeats 4000000 in
theorem s_M_numberIn_B42 {d : Nat} (hd : 2 ≤ d + 1) {Q : Int32 → Hp → Prop} {QQ : Option AV → Hp → Prop} (hQ : ∀ r9 h9, Q r9 h9 → QQ (some (ai r9)) h9) {v0 : Nat} {h : Hp} (hw : w_M_numberIn_B42 Q  v0 h) : aW none m_M_numberIn (d + 1) 42 [(0, ar v0)] [] h 0 0 QQ := by
  unfold w_M_numberIn_B42 at hw
  refine r_aload_n (j := 0) d_M_numberIn_42 rfl ?_
  obtain ⟨q4, hw⟩ := hw
  refine r_getI d_M_numberIn_43 ok_12 (nle rfl) (nle rfl) rfl lf_M_169 q4 ?_
  refine r_istore_n (ls2 := [(3, ai (gI h v0 6)), (0, ar v0)]) d_M_numberIn_46 (nle rfl) rfl ?_
  refine r_aload_n (j := 1) d_M_numberIn_47 rfl ?_
  refine r_callV (av := []) (rest := []) (ci := 12) d_M_numberIn_48 mk_M_isGood ll_M_188 im_M_isGood se_M_isGood rfl (nle rfl) rfl rfl (nle rfl) q4 (s_M_isGood  hw (fun r6 h5 hw => ?_))
  show aW none m_M_numberIn (d + 1) 51 [(3, ai (gI h v0 6)), (0, ar v0)] [ai (b2i r6)] h5 0 0 QQ
  refine r_if_eq d_M_numberIn_51 (fun w9 => ?_) (fun w9 => ?_)
  · replace hw := hw.1 (b2i_0.mp w9)
    refine r_iload_n (j := 0) d_M_numberIn_58 rfl ?_
    exact r_ireturn d_M_numberIn_59.1 rfl (hQ _ _ hw)
  · replace hw := hw.2 (fun g9 => w9 (b2i_0.mpr g9))
    refine r_aload_n (j := 1) d_M_numberIn_54 rfl ?_
    obtain ⟨q8, hw⟩ := hw
    refine r_callV (av := []) (rest := []) (ci := 12) d_M_numberIn_55 mk_M_goOn ll_M_192 im_M_goOn se_M_goOn rfl (nle rfl) rfl rfl (nle rfl) q8 (s_M_goOn (by omega) hw (fun h7 hw => ?_))
    show aW none m_M_numberIn (d + 1) 58 [(3, ai (gI h v0 6)), (0, ar v0)] [] h7 0 0 QQ
    refine r_iload_n (j := 0) d_M_numberIn_58 rfl ?_
    exact r_ireturn d_M_numberIn_59.1 rfl (hQ _ _ hw)
set_option maxRecDepth 100000 in
set_option maxHeartbeats 4000000 in
theorem s_M_numberIn {d : Nat} (hd : 2 ≤ d) {v0 : Nat} {v1 : Int32} {v2 : Int32} {h : Hp} {Q : Int32 → Hp → Prop} {QQ : Option AV → Hp → Prop} (hw : w_M_numberIn v0 v1 v2 h Q) (hQ : ∀ r9 h9, Q r9 h9 → QQ (some (ai r9)) h9) : aCall m_M_numberIn d [ar v0, ai v1, ai v2] h 0 0 QQ := by
  obtain ⟨d, rfl⟩ : ∃ d9, d = d9 + 1 := ⟨d - 1, by omega⟩
  refine aCall_in pl_M_numberIn (nle rfl) ?_
  show aW none m_M_numberIn (d + 1) 0 [(0, ar v0), (1, ai v1), (2, ai v2)] [] h 0 0 QQ
  unfold w_M_numberIn at hw
  refine r_aload_n (j := 0) d_M_numberIn_0 rfl ?_
  obtain ⟨q1, hw⟩ := hw
  refine r_getI d_M_numberIn_1 ok_12 (nle rfl) (nle rfl) rfl lf_M_182 q1 ?_
  refine r_if_le d_M_numberIn_4 (fun w9 => ?_) (fun w9 => ?_)
  · replace hw := hw.1 w9
    refine r_aload_n (j := 0) d_M_numberIn_9 rfl ?_
    refine r_getI d_M_numberIn_10 ok_12 (nle rfl) (nle rfl) rfl lf_M_172 q1 ?_
    refine r_iconst d_M_numberIn_13 kc_2 ?_
    refine r_icmp_eq d_M_numberIn_14 (fun w9 => ?_) (fun w9 => ?_)
    · replace hw := hw.1 w9
      refine r_aload_n (j := 0) d_M_numberIn_25 rfl ?_
      refine r_getI d_M_numberIn_26 ok_12 (nle rfl) (nle rfl) rfl lf_M_169 q1 ?_
      refine r_iload_n (j := 1) d_M_numberIn_29 rfl ?_
      refine r_iload_n (j := 2) d_M_numberIn_30 rfl ?_
      refine r_callS (av := [ai (gI h v0 6), ai v1, ai v2]) (rest := []) d_M_numberIn_31 mk_M_isIn ll_M_148 st_M_isIn rfl rfl (nle rfl) (s_M_isIn  hw (fun r3 h2 hw => ?_))
      show aW none m_M_numberIn (d + 1) 34 [(0, ar v0), (1, ai v1), (2, ai v2)] [ai (b2i r3)] h2 0 0 QQ
      refine r_if_ne d_M_numberIn_34 (fun w9 => ?_) (fun w9 => ?_)
      · replace hw := hw.2 (fun g9 => w9 (b2i_0.mpr g9))
        refine r_pick (ls2 := [(0, ar v0)]) [0] rfl ?_
        exact s_M_numberIn_B42 hd hQ  hw
      · replace hw := hw.1 (b2i_0.mp w9)
        refine r_aload_n (j := 0) d_M_numberIn_37 rfl ?_
        refine r_iconst d_M_numberIn_38 kc_4 ?_
        obtain ⟨q10, hw⟩ := hw
        refine r_callV (av := [ai (4 : Int32)]) (rest := []) (ci := 12) d_M_numberIn_39 mk_M_wrong ll_M_185 im_M_wrong se_M_wrong rfl (nle rfl) rfl rfl (nle rfl) q10 (s_M_wrong  hw (fun h9 hw => ?_))
        show aW none m_M_numberIn (d + 1) 42 [(0, ar v0), (1, ai v1), (2, ai v2)] [] h9 0 0 QQ
        refine r_pick (ls2 := [(0, ar v0)]) [0] rfl ?_
        exact s_M_numberIn_B42 hd hQ  hw
    · replace hw := hw.2 w9
      refine r_aload_n (j := 0) d_M_numberIn_17 rfl ?_
      refine r_iconst d_M_numberIn_18 kc_2 ?_
      refine r_callV (av := [ai (2 : Int32)]) (rest := []) (ci := 12) d_M_numberIn_19 mk_M_wrong ll_M_185 im_M_wrong se_M_wrong rfl (nle rfl) rfl rfl (nle rfl) q1 (s_M_wrong  hw (fun h11 hw => ?_))
      show aW none m_M_numberIn (d + 1) 22 [(0, ar v0), (1, ai v1), (2, ai v2)] [] h11 0 0 QQ
      refine r_goto d_M_numberIn_22 ?_
      refine r_pick (ls2 := [(0, ar v0)]) [0] rfl ?_
      exact s_M_numberIn_B42 hd hQ  hw
  · replace hw := hw.2 w9
    refine r_iconst d_M_numberIn_7 kc_0 ?_
    exact r_ireturn d_M_numberIn_8.1 rfl (hQ _ _ hw)
set_option maxRecDepth 100000 in
set_option maxHeartbeats 4000000 in
theorem s_M_signed_B29 {d : Nat} (hd : 3 ≤ d + 1) {Q : Int32 → Hp → Prop} {QQ : Option AV → Hp → Prop} (hQ : ∀ r9 h9, Q r9 h9 → QQ (some (ai r9)) h9) {v0 : Nat} {v1 : Int32} {v2 : Int32} {h : Hp} (hw : w_M_signed_B29 Q  v0 v1 v2 h) : aW none m_M_signed (d + 1) 29 [(0, ar v0), (1, ai v1), (2, ai v2)] [] h 0 0 QQ := by
  unfold w_M_signed_B29 at hw
  refine r_aload_n (j := 0) d_M_signed_29 rfl ?_
  refine r_iconst d_M_signed_30 kc_0 ?_
  refine r_iload_n (j := 1) d_M_signed_31 rfl ?_
  obtain ⟨q6, hw⟩ := hw
  refine r_callV (av := [ai (0 : Int32), ai v1]) (rest := []) (ci := 12) d_M_signed_32 mk_M_numberIn ll_M_195 im_M_numberIn se_M_numberIn rfl (nle rfl) rfl rfl (nle rfl) q6 (s_M_numberIn (by omega) hw (fun r5 h4 hw => ?_))
  show aW none m_M_signed (d + 1) 35 [(0, ar v0), (1, ai v1), (2, ai v2)] [ai r5] h4 0 0 QQ
  refine r_istore_n (ls2 := [(3, ai r5), (0, ar v0), (1, ai v1), (2, ai v2)]) d_M_signed_35 (nle rfl) rfl ?_
  refine r_iload_n (j := 3) d_M_signed_36 rfl ?_
  refine r_if_eq d_M_signed_37 (fun w9 => ?_) (fun w9 => ?_)
  · replace hw := hw.1 w9
    refine r_iload_n (j := 0) d_M_signed_45 rfl ?_
    exact r_ireturn d_M_signed_46.1 rfl (hQ _ _ hw)
  · replace hw := hw.2 w9
    refine r_iload_n (j := 0) d_M_signed_40 rfl ?_
    refine r_ineg d_M_signed_41 ?_
    refine r_goto d_M_signed_42 ?_
    exact r_ireturn d_M_signed_46.1 rfl (hQ _ _ hw)
set_option maxRecDepth 100000 in
set_option maxHeartbeats 4000000 in
theorem s_M_signed_B20 {d : Nat} (hd : 3 ≤ d + 1) {Q : Int32 → Hp → Prop} {QQ : Option AV → Hp → Prop} (hQ : ∀ r9 h9, Q r9 h9 → QQ (some (ai r9)) h9) {v0 : Nat} {v1 : Int32} {s0 : Int32} {h : Hp} (hw : w_M_signed_B20 Q  v0 v1 s0 h) : aW none m_M_signed (d + 1) 20 [(0, ar v0), (1, ai v1)] [ai s0] h 0 0 QQ := by
  unfold w_M_signed_B20 at hw
  refine r_istore_n (ls2 := [(2, ai s0), (0, ar v0), (1, ai v1)]) d_M_signed_20 (nle rfl) rfl ?_
  refine r_iload_n (j := 0) d_M_signed_21 rfl ?_
  refine r_if_eq d_M_signed_22 (fun w9 => ?_) (fun w9 => ?_)
  · replace hw := hw.1 w9
    refine r_pick (ls2 := [(0, ar v0), (1, ai v1), (2, ai s0)]) [1, 2, 0] rfl ?_
    exact s_M_signed_B29 hd hQ  hw
  · replace hw := hw.2 w9
    refine r_aload_n (j := 1) d_M_signed_25 rfl ?_
    obtain ⟨q8, hw⟩ := hw
    refine r_callV (av := []) (rest := []) (ci := 12) d_M_signed_26 mk_M_goOn ll_M_192 im_M_goOn se_M_goOn rfl (nle rfl) rfl rfl (nle rfl) q8 (s_M_goOn (by omega) hw (fun h7 hw => ?_))
    show aW none m_M_signed (d + 1) 29 [(2, ai s0), (0, ar v0), (1, ai v1)] [] h7 0 0 QQ
    refine r_pick (ls2 := [(0, ar v0), (1, ai v1), (2, ai s0)]) [1, 2, 0] rfl ?_
    exact s_M_signed_B29 hd hQ  hw
set_option maxRecDepth 100000 in
set_option maxHeartbeats 4000000 in
theorem s_M_signed_B19 {d : Nat} (hd : 3 ≤ d + 1) {Q : Int32 → Hp → Prop} {QQ : Option AV → Hp → Prop} (hQ : ∀ r9 h9, Q r9 h9 → QQ (some (ai r9)) h9) {v0 : Nat} {v1 : Int32} {h : Hp} (hw : w_M_signed_B19 Q  v0 v1 h) : aW none m_M_signed (d + 1) 19 [(0, ar v0), (1, ai v1)] [] h 0 0 QQ := by
  unfold w_M_signed_B19 at hw
  refine r_iconst d_M_signed_19 kc_0 ?_
  exact s_M_signed_B20 hd hQ  hw
set_option maxRecDepth 100000 in
set_option maxHeartbeats 4000000 in
theorem s_M_signed {d : Nat} (hd : 3 ≤ d) {v0 : Nat} {v1 : Int32} {h : Hp} {Q : Int32 → Hp → Prop} {QQ : Option AV → Hp → Prop} (hw : w_M_signed v0 v1 h Q) (hQ : ∀ r9 h9, Q r9 h9 → QQ (some (ai r9)) h9) : aCall m_M_signed d [ar v0, ai v1] h 0 0 QQ := by
  obtain ⟨d, rfl⟩ : ∃ d9, d = d9 + 1 := ⟨d - 1, by omega⟩
  refine aCall_in pl_M_signed (nle rfl) ?_
  show aW none m_M_signed (d + 1) 0 [(0, ar v0), (1, ai v1)] [] h 0 0 QQ
  unfold w_M_signed at hw
  refine r_aload_n (j := 0) d_M_signed_0 rfl ?_
  obtain ⟨q3, hw⟩ := hw
  refine r_callV (av := []) (rest := []) (ci := 12) d_M_signed_1 mk_M_isGood ll_M_188 im_M_isGood se_M_isGood rfl (nle rfl) rfl rfl (nle rfl) q3 (s_M_isGood  hw (fun r2 h1 hw => ?_))
  show aW none m_M_signed (d + 1) 4 [(0, ar v0), (1, ai v1)] [ai (b2i r2)] h1 0 0 QQ
  refine r_if_eq d_M_signed_4 (fun w9 => ?_) (fun w9 => ?_)
  · replace hw := hw.1 (b2i_0.mp w9)
    exact s_M_signed_B19 hd hQ  hw
  · replace hw := hw.2 (fun g9 => w9 (b2i_0.mpr g9))
    refine r_aload_n (j := 0) d_M_signed_7 rfl ?_
    obtain ⟨q9, hw⟩ := hw
    refine r_getI d_M_signed_8 ok_12 (nle rfl) (nle rfl) rfl lf_M_172 q9 ?_
    refine r_iconst d_M_signed_11 kc_4 ?_
    refine r_icmp_ne d_M_signed_12 (fun w9 => ?_) (fun w9 => ?_)
    · replace hw := hw.2 w9
      exact s_M_signed_B19 hd hQ  hw
    · replace hw := hw.1 w9
      refine r_iconst d_M_signed_15 kc_1 ?_
      refine r_goto d_M_signed_16 ?_
      exact s_M_signed_B20 hd hQ  hw
set_option maxRecDepth 100000 in
set_option maxHeartbeats 4000000 in
theorem s_M_rowsLine_B23 {d : Nat} (hd : 3 ≤ d + 1) {Q : Hp → Prop} {QQ : Option AV → Hp → Prop} (hQ : ∀ h9, Q h9 → QQ none h9) {v0 : Nat} {h : Hp} (hw : w_M_rowsLine_B23 Q  v0 h) : aW none m_M_rowsLine (d + 1) 23 [(0, ar v0)] [] h 0 0 QQ := by
  unfold w_M_rowsLine_B23 at hw
  refine r_aload_n (j := 0) d_M_rowsLine_23 rfl ?_
  refine r_aload_n (j := 0) d_M_rowsLine_24 rfl ?_
  refine r_iconst d_M_rowsLine_25 kc_1 ?_
  refine r_iconst d_M_rowsLine_26 kc_3 ?_
  obtain ⟨q7, hw⟩ := hw
  refine r_callV (av := [ai (1 : Int32), ai (3 : Int32)]) (rest := [ar v0]) (ci := 12) d_M_rowsLine_27 mk_M_numberIn ll_M_195 im_M_numberIn se_M_numberIn rfl (nle rfl) rfl rfl (nle rfl) q7 (s_M_numberIn (by omega) hw (fun r6 h5 hw => ?_))
  show aW none m_M_rowsLine (d + 1) 30 [(0, ar v0)] [ai r6, ar v0] h5 0 0 QQ
  obtain ⟨q8, hw⟩ := hw
  refine r_putI d_M_rowsLine_30 ok_12 (nle rfl) (nle rfl) rfl lf_M_199 rfl q8 ?_
  exact r_return d_M_rowsLine_33.1 rfl (hQ _ hw)
set_option maxRecDepth 100000 in
set_option maxHeartbeats 4000000 in
theorem s_M_rowsLine_B12 {d : Nat} (hd : 3 ≤ d + 1) {Q : Hp → Prop} {QQ : Option AV → Hp → Prop} (hQ : ∀ h9, Q h9 → QQ none h9) {v0 : Nat} {h : Hp} (hw : w_M_rowsLine_B12 Q  v0 h) : aW none m_M_rowsLine (d + 1) 12 [(0, ar v0)] [] h 0 0 QQ := by
  unfold w_M_rowsLine_B12 at hw
  refine r_aload_n (j := 0) d_M_rowsLine_12 rfl ?_
  obtain ⟨q4, hw⟩ := hw
  refine r_callV (av := []) (rest := []) (ci := 12) d_M_rowsLine_13 mk_M_isGood ll_M_188 im_M_isGood se_M_isGood rfl (nle rfl) rfl rfl (nle rfl) q4 (s_M_isGood  hw (fun r3 h2 hw => ?_))
  show aW none m_M_rowsLine (d + 1) 16 [(0, ar v0)] [ai (b2i r3)] h2 0 0 QQ
  refine r_if_eq d_M_rowsLine_16 (fun w9 => ?_) (fun w9 => ?_)
  · replace hw := hw.1 (b2i_0.mp w9)
    exact s_M_rowsLine_B23 hd hQ  hw
  · replace hw := hw.2 (fun g9 => w9 (b2i_0.mpr g9))
    refine r_aload_n (j := 0) d_M_rowsLine_19 rfl ?_
    obtain ⟨q10, hw⟩ := hw
    refine r_callV (av := []) (rest := []) (ci := 12) d_M_rowsLine_20 mk_M_goOn ll_M_192 im_M_goOn se_M_goOn rfl (nle rfl) rfl rfl (nle rfl) q10 (s_M_goOn (by omega) hw (fun h9 hw => ?_))
    show aW none m_M_rowsLine (d + 1) 23 [(0, ar v0)] [] h9 0 0 QQ
    exact s_M_rowsLine_B23 hd hQ  hw
set_option maxRecDepth 100000 in
set_option maxHeartbeats 4000000 in
theorem s_M_rowsLine {d : Nat} (hd : 3 ≤ d) {v0 : Nat} {h : Hp} {Q : Hp → Prop} {QQ : Option AV → Hp → Prop} (hw : w_M_rowsLine v0 h Q) (hQ : ∀ h9, Q h9 → QQ none h9) : aCall m_M_rowsLine d [ar v0] h 0 0 QQ := by
  obtain ⟨d, rfl⟩ : ∃ d9, d = d9 + 1 := ⟨d - 1, by omega⟩
  refine aCall_in pl_M_rowsLine (nle rfl) ?_
  show aW none m_M_rowsLine (d + 1) 0 [(0, ar v0)] [] h 0 0 QQ
  unfold w_M_rowsLine at hw
  refine r_aload_n (j := 0) d_M_rowsLine_0 rfl ?_
  obtain ⟨q1, hw⟩ := hw
  refine r_getI d_M_rowsLine_1 ok_12 (nle rfl) (nle rfl) rfl lf_M_205 q1 ?_
  refine r_if_eq d_M_rowsLine_4 (fun w9 => ?_) (fun w9 => ?_)
  · replace hw := hw.1 w9
    exact s_M_rowsLine_B12 hd hQ  hw
  · replace hw := hw.2 w9
    refine r_aload_n (j := 0) d_M_rowsLine_7 rfl ?_
    refine r_iconst d_M_rowsLine_8 kc_2 ?_
    refine r_callV (av := [ai (2 : Int32)]) (rest := []) (ci := 12) d_M_rowsLine_9 mk_M_wrong ll_M_185 im_M_wrong se_M_wrong rfl (nle rfl) rfl rfl (nle rfl) q1 (s_M_wrong  hw (fun h11 hw => ?_))
    show aW none m_M_rowsLine (d + 1) 12 [(0, ar v0)] [] h11 0 0 QQ
    exact s_M_rowsLine_B12 hd hQ  hw
set_option maxRecDepth 100000 in
set_option maxHeartbeats 4000000 in
theorem s_M_columnLine_B221 {d : Nat} (hd : 4 ≤ d + 1) {Q : Hp → Prop} {QQ : Option AV → Hp → Prop} (hQ : ∀ h9, Q h9 → QQ none h9) {v0 : Nat} {v1 : Int32} {h : Hp} (hw : w_M_columnLine_B221 Q  v0 v1 h) : aW none m_M_columnLine (d + 1) 221 [(0, ar v0), (1, ai v1)] [] h 0 0 QQ := by
  unfold w_M_columnLine_B221 at hw
  refine r_aload_n (j := 0) d_M_columnLine_221 rfl ?_
  obtain ⟨q18, hw⟩ := hw
  refine r_getR d_M_columnLine_222 ok_12 (nle rfl) (nle rfl) rfl lf_M_20 q18 ?_
  refine r_bipush d_M_columnLine_225 kb_24 ?_
  refine r_iload_n (j := 1) d_M_columnLine_227 rfl ?_
  refine r_iadd d_M_columnLine_228 ?_
  refine r_aload_n (j := 0) d_M_columnLine_229 rfl ?_
  refine r_bipush d_M_columnLine_230 kb_99 ?_
  refine r_callV (av := [ai (99 : Int32)]) (rest := [ai ((24 : Int32) + v1), ar (gR h v0 12)]) (ci := 12) d_M_columnLine_232 mk_M_signed ll_M_225 im_M_signed se_M_signed rfl (nle rfl) rfl rfl (nle rfl) q18 (s_M_signed (by omega) hw (fun r20 h19 hw => ?_))
  show aW none m_M_columnLine (d + 1) 235 [(0, ar v0), (1, ai v1)] [ai r20, ai ((24 : Int32) + v1), ar (gR h v0 12)] h19 0 0 QQ
  obtain ⟨q21, hw⟩ := hw
  obtain ⟨q22, hw⟩ := hw
  refine r_iast d_M_columnLine_235 q21 q22 ?_
  refine r_aload_n (j := 0) d_M_columnLine_236 rfl ?_
  refine r_dup d_M_columnLine_237 rfl ?_
  obtain ⟨q23, hw⟩ := hw
  refine r_getI d_M_columnLine_238 ok_12 (nle rfl) (nle rfl) rfl lf_M_202 q23 ?_
  refine r_iconst d_M_columnLine_241 kc_1 ?_
  refine r_iadd d_M_columnLine_242 ?_
  refine r_putI d_M_columnLine_243 ok_12 (nle rfl) (nle rfl) rfl lf_M_202 rfl q23 ?_
  exact r_return d_M_columnLine_246.1 rfl (hQ _ hw)
set_option maxRecDepth 100000 in
set_option maxHeartbeats 4000000 in
theorem s_M_columnLine_B210 {d : Nat} (hd : 4 ≤ d + 1) {Q : Hp → Prop} {QQ : Option AV → Hp → Prop} (hQ : ∀ h9, Q h9 → QQ none h9) {v0 : Nat} {v1 : Int32} {h : Hp} (hw : w_M_columnLine_B210 Q  v0 v1 h) : aW none m_M_columnLine (d + 1) 210 [(0, ar v0), (1, ai v1)] [] h 0 0 QQ := by
  unfold w_M_columnLine_B210 at hw
  refine r_aload_n (j := 0) d_M_columnLine_210 rfl ?_
  obtain ⟨q17, hw⟩ := hw
  refine r_callV (av := []) (rest := []) (ci := 12) d_M_columnLine_211 mk_M_isGood ll_M_188 im_M_isGood se_M_isGood rfl (nle rfl) rfl rfl (nle rfl) q17 (s_M_isGood  hw (fun r16 h15 hw => ?_))
  show aW none m_M_columnLine (d + 1) 214 [(0, ar v0), (1, ai v1)] [ai (b2i r16)] h15 0 0 QQ
  refine r_if_eq d_M_columnLine_214 (fun w9 => ?_) (fun w9 => ?_)
  · replace hw := hw.1 (b2i_0.mp w9)
    exact s_M_columnLine_B221 hd hQ  hw
  · replace hw := hw.2 (fun g9 => w9 (b2i_0.mpr g9))
    refine r_aload_n (j := 0) d_M_columnLine_217 rfl ?_
    obtain ⟨q25, hw⟩ := hw
    refine r_callV (av := []) (rest := []) (ci := 12) d_M_columnLine_218 mk_M_goOn ll_M_192 im_M_goOn se_M_goOn rfl (nle rfl) rfl rfl (nle rfl) q25 (s_M_goOn (by omega) hw (fun h24 hw => ?_))
    show aW none m_M_columnLine (d + 1) 221 [(0, ar v0), (1, ai v1)] [] h24 0 0 QQ
    exact s_M_columnLine_B221 hd hQ  hw
set_option maxRecDepth 100000 in
set_option maxHeartbeats 4000000 in
theorem s_M_columnLine_L166 {d : Nat} (hd : 4 ≤ d + 1) {Q : Hp → Prop} {QQ : Option AV → Hp → Prop} (hQ : ∀ h9, Q h9 → QQ none h9) {v0 : Nat} {v1 : Int32} : ∀ (n : Nat) (v2 : Int32) (h : Hp), w_M_columnLine_L166 Q  v0 v1 n v2 h → aW none m_M_columnLine (d + 1) 166 [(0, ar v0), (1, ai v1), (2, ai v2)] [] h 0 0 QQ := by
  intro n
  induction n with
  | zero => intro v2 h hw; exact hw.elim
  | succ n ih =>
    intro v2 h hw
    unfold w_M_columnLine_L166 at hw
    refine r_iload_n (j := 2) d_M_columnLine_166 rfl ?_
    refine r_aload_n (j := 0) d_M_columnLine_167 rfl ?_
    obtain ⟨q12, hw⟩ := hw
    refine r_getI d_M_columnLine_168 ok_12 (nle rfl) (nle rfl) rfl lf_M_199 q12 ?_
    refine r_icmp_ge d_M_columnLine_171 (fun w9 => ?_) (fun w9 => ?_)
    · replace hw := hw.1 w9
      refine r_aload_n (j := 0) d_M_columnLine_195 rfl ?_
      refine r_ldc2 d_M_columnLine_196 lc_M_219 ?_
      refine r_callV (av := [al (1734437230 : Int64)]) (rest := []) (ci := 12) d_M_columnLine_199 mk_M_isWord ll_M_228 im_M_isWord se_M_isWord rfl (nle rfl) rfl rfl (nle rfl) q12 (s_M_isWord  hw (fun r14 h13 hw => ?_))
      show aW none m_M_columnLine (d + 1) 202 [(0, ar v0), (1, ai v1), (2, ai v2)] [ai (b2i r14)] h13 0 0 QQ
      refine r_if_ne d_M_columnLine_202 (fun w9 => ?_) (fun w9 => ?_)
      · replace hw := hw.2 (fun g9 => w9 (b2i_0.mpr g9))
        refine r_pick (ls2 := [(0, ar v0), (1, ai v1)]) [0, 1] rfl ?_
        exact s_M_columnLine_B210 hd hQ  hw
      · replace hw := hw.1 (b2i_0.mp w9)
        refine r_aload_n (j := 0) d_M_columnLine_205 rfl ?_
        refine r_iconst d_M_columnLine_206 kc_2 ?_
        obtain ⟨q27, hw⟩ := hw
        refine r_callV (av := [ai (2 : Int32)]) (rest := []) (ci := 12) d_M_columnLine_207 mk_M_wrong ll_M_185 im_M_wrong se_M_wrong rfl (nle rfl) rfl rfl (nle rfl) q27 (s_M_wrong  hw (fun h26 hw => ?_))
        show aW none m_M_columnLine (d + 1) 210 [(0, ar v0), (1, ai v1), (2, ai v2)] [] h26 0 0 QQ
        refine r_pick (ls2 := [(0, ar v0), (1, ai v1)]) [0, 1] rfl ?_
        exact s_M_columnLine_B210 hd hQ  hw
    · replace hw := hw.2 w9
      refine r_aload_n (j := 0) d_M_columnLine_174 rfl ?_
      refine r_getR d_M_columnLine_175 ok_12 (nle rfl) (nle rfl) rfl lf_M_20 q12 ?_
      refine r_iconst d_M_columnLine_178 kc_3 ?_
      refine r_iload_n (j := 1) d_M_columnLine_179 rfl ?_
      refine r_imul d_M_columnLine_180 ?_
      refine r_iload_n (j := 2) d_M_columnLine_181 rfl ?_
      refine r_iadd d_M_columnLine_182 ?_
      refine r_aload_n (j := 0) d_M_columnLine_183 rfl ?_
      refine r_iconst d_M_columnLine_184 kc_5 ?_
      refine r_callV (av := [ai (5 : Int32)]) (rest := [ai (((3 : Int32) * v1) + v2), ar (gR h v0 12)]) (ci := 12) d_M_columnLine_185 mk_M_signed ll_M_225 im_M_signed se_M_signed rfl (nle rfl) rfl rfl (nle rfl) q12 (s_M_signed (by omega) hw (fun r29 h28 hw => ?_))
      show aW none m_M_columnLine (d + 1) 188 [(0, ar v0), (1, ai v1), (2, ai v2)] [ai r29, ai (((3 : Int32) * v1) + v2), ar (gR h v0 12)] h28 0 0 QQ
      obtain ⟨q30, hw⟩ := hw
      obtain ⟨q31, hw⟩ := hw
      refine r_iast d_M_columnLine_188 q30 q31 ?_
      refine r_iinc (j := 2) (ls2 := [(2, ai (v2 + (1 : Int32))), (0, ar v0), (1, ai v1)]) d_M_columnLine_189 rfl (congrArg (HAdd.hAdd v2) kc_1) (nle rfl) rfl ?_
      refine r_goto d_M_columnLine_192 ?_
      refine r_pick (ls2 := [(0, ar v0), (1, ai v1), (2, ai (v2 + (1 : Int32)))]) [1, 2, 0] rfl ?_
      exact ih _ _ hw
set_option maxRecDepth 100000 in
set_option maxHeartbeats 4000000 in
theorem s_M_columnLine_B142 {d : Nat} (hd : 4 ≤ d + 1) {Q : Hp → Prop} {QQ : Option AV → Hp → Prop} (hQ : ∀ h9, Q h9 → QQ none h9) {v0 : Nat} {v1 : Int32} {h : Hp} (hw : w_M_columnLine_B142 Q  v0 v1 h) : aW none m_M_columnLine (d + 1) 142 [(0, ar v0), (1, ai v1)] [] h 0 0 QQ := by
  unfold w_M_columnLine_B142 at hw
  refine r_aload_n (j := 0) d_M_columnLine_142 rfl ?_
  obtain ⟨q8, hw⟩ := hw
  refine r_getI d_M_columnLine_143 ok_12 (nle rfl) (nle rfl) rfl lf_M_182 q8 ?_
  refine r_if_le d_M_columnLine_146 (fun w9 => ?_) (fun w9 => ?_)
  · replace hw := hw.1 w9
    refine r_aload_n (j := 0) d_M_columnLine_150 rfl ?_
    refine r_getR d_M_columnLine_151 ok_12 (nle rfl) (nle rfl) rfl lf_M_26 q8 ?_
    refine r_iload_n (j := 1) d_M_columnLine_154 rfl ?_
    refine r_aload_n (j := 0) d_M_columnLine_155 rfl ?_
    refine r_getL d_M_columnLine_156 ok_12 (nle rfl) (nle rfl) rfl lf_M_165 q8 ?_
    obtain ⟨q9, hw⟩ := hw
    obtain ⟨q10, hw⟩ := hw
    refine r_last d_M_columnLine_159 q9 q10 ?_
    refine r_aload_n (j := 0) d_M_columnLine_160 rfl ?_
    refine r_callV (av := []) (rest := []) (ci := 12) d_M_columnLine_161 mk_M_goOn ll_M_192 im_M_goOn se_M_goOn rfl (nle rfl) rfl rfl (nle rfl) q8 (s_M_goOn (by omega) hw (fun h11 hw => ?_))
    show aW none m_M_columnLine (d + 1) 164 [(0, ar v0), (1, ai v1)] [] h11 0 0 QQ
    refine r_iconst d_M_columnLine_164 kc_0 ?_
    refine r_istore_n (ls2 := [(2, ai (0 : Int32)), (0, ar v0), (1, ai v1)]) d_M_columnLine_165 (nle rfl) rfl ?_
    obtain ⟨n32, hw⟩ := hw
    refine r_pick (ls2 := [(0, ar v0), (1, ai v1), (2, ai (0 : Int32))]) [1, 2, 0] rfl ?_
    exact s_M_columnLine_L166 hd hQ  n32 _ _ hw
  · replace hw := hw.2 w9
    exact r_return d_M_columnLine_149.1 rfl (hQ _ hw)
set_option maxRecDepth 100000 in
set_option maxHeartbeats 4000000 in
theorem s_M_columnLine_L105 {d : Nat} (hd : 4 ≤ d + 1) {Q : Hp → Prop} {QQ : Option AV → Hp → Prop} (hQ : ∀ h9, Q h9 → QQ none h9) {v0 : Nat} {v1 : Int32} : ∀ (n : Nat) (v2 : Int32) (h : Hp), w_M_columnLine_L105 Q  v0 v1 n v2 h → aW none m_M_columnLine (d + 1) 105 [(0, ar v0), (1, ai v1), (2, ai v2)] [] h 0 0 QQ := by
  intro n
  induction n with
  | zero => intro v2 h hw; exact hw.elim
  | succ n ih =>
    intro v2 h hw
    unfold w_M_columnLine_L105 at hw
    refine r_iload_n (j := 2) d_M_columnLine_105 rfl ?_
    refine r_iload_n (j := 1) d_M_columnLine_106 rfl ?_
    refine r_icmp_ge d_M_columnLine_107 (fun w9 => ?_) (fun w9 => ?_)
    · replace hw := hw.1 w9
      refine r_pick (ls2 := [(0, ar v0), (1, ai v1)]) [0, 1] rfl ?_
      exact s_M_columnLine_B142 hd hQ  hw
    · replace hw := hw.2 w9
      refine r_aload_n (j := 0) d_M_columnLine_110 rfl ?_
      obtain ⟨q35, hw⟩ := hw
      refine r_callV (av := []) (rest := []) (ci := 12) d_M_columnLine_111 mk_M_isGood ll_M_188 im_M_isGood se_M_isGood rfl (nle rfl) rfl rfl (nle rfl) q35 (s_M_isGood  hw (fun r34 h33 hw => ?_))
      show aW none m_M_columnLine (d + 1) 114 [(0, ar v0), (1, ai v1), (2, ai v2)] [ai (b2i r34)] h33 0 0 QQ
      refine r_if_eq d_M_columnLine_114 (fun w9 => ?_) (fun w9 => ?_)
      · replace hw := hw.1 (b2i_0.mp w9)
        refine r_pick (ls2 := [(0, ar v0), (1, ai v1)]) [0, 1] rfl ?_
        exact s_M_columnLine_B142 hd hQ  hw
      · replace hw := hw.2 (fun g9 => w9 (b2i_0.mpr g9))
        refine r_aload_n (j := 0) d_M_columnLine_117 rfl ?_
        obtain ⟨q36, hw⟩ := hw
        refine r_getR d_M_columnLine_118 ok_12 (nle rfl) (nle rfl) rfl lf_M_26 q36 ?_
        refine r_iload_n (j := 2) d_M_columnLine_121 rfl ?_
        obtain ⟨q37, hw⟩ := hw
        obtain ⟨q38, hw⟩ := hw
        refine r_lald d_M_columnLine_122 q37 q38 ?_
        refine r_aload_n (j := 0) d_M_columnLine_123 rfl ?_
        refine r_getL d_M_columnLine_124 ok_12 (nle rfl) (nle rfl) rfl lf_M_165 q36 ?_
        refine r_lcmp d_M_columnLine_127 ?_
        refine r_if_ne d_M_columnLine_128 (fun w9 => ?_) (fun w9 => ?_)
        · replace hw := hw.2 (fun g9 => w9 ((lg_cmp_eq _ _).mpr g9))
          refine r_iinc (j := 2) (ls2 := [(2, ai (v2 + (1 : Int32))), (0, ar v0), (1, ai v1)]) d_M_columnLine_136 rfl (congrArg (HAdd.hAdd v2) kc_1) (nle rfl) rfl ?_
          refine r_goto d_M_columnLine_139 ?_
          refine r_pick (ls2 := [(0, ar v0), (1, ai v1), (2, ai (v2 + (1 : Int32)))]) [1, 2, 0] rfl ?_
          exact ih _ _ hw
        · replace hw := hw.1 ((lg_cmp_eq _ _).mp w9)
          refine r_aload_n (j := 0) d_M_columnLine_131 rfl ?_
          refine r_iconst d_M_columnLine_132 kc_3 ?_
          refine r_callV (av := [ai (3 : Int32)]) (rest := []) (ci := 12) d_M_columnLine_133 mk_M_wrong ll_M_185 im_M_wrong se_M_wrong rfl (nle rfl) rfl rfl (nle rfl) q36 (s_M_wrong  hw (fun h39 hw => ?_))
          show aW none m_M_columnLine (d + 1) 136 [(0, ar v0), (1, ai v1), (2, ai v2)] [] h39 0 0 QQ
          refine r_iinc (j := 2) (ls2 := [(2, ai (v2 + (1 : Int32))), (0, ar v0), (1, ai v1)]) d_M_columnLine_136 rfl (congrArg (HAdd.hAdd v2) kc_1) (nle rfl) rfl ?_
          refine r_goto d_M_columnLine_139 ?_
          refine r_pick (ls2 := [(0, ar v0), (1, ai v1), (2, ai (v2 + (1 : Int32)))]) [1, 2, 0] rfl ?_
          exact ih _ _ hw
set_option maxRecDepth 100000 in
set_option maxHeartbeats 4000000 in
theorem s_M_columnLine_B98 {d : Nat} (hd : 4 ≤ d + 1) {Q : Hp → Prop} {QQ : Option AV → Hp → Prop} (hQ : ∀ h9, Q h9 → QQ none h9) {v0 : Nat} {v1 : Int32} {h : Hp} (hw : w_M_columnLine_B98 Q  v0 v1 h) : aW none m_M_columnLine (d + 1) 98 [(0, ar v0), (1, ai v1)] [] h 0 0 QQ := by
  unfold w_M_columnLine_B98 at hw
  refine r_aload_n (j := 0) d_M_columnLine_98 rfl ?_
  refine r_iconst d_M_columnLine_99 kc_2 ?_
  obtain ⟨q7, hw⟩ := hw
  refine r_callV (av := [ai (2 : Int32)]) (rest := []) (ci := 12) d_M_columnLine_100 mk_M_wrong ll_M_185 im_M_wrong se_M_wrong rfl (nle rfl) rfl rfl (nle rfl) q7 (s_M_wrong  hw (fun h6 hw => ?_))
  show aW none m_M_columnLine (d + 1) 103 [(0, ar v0), (1, ai v1)] [] h6 0 0 QQ
  refine r_iconst d_M_columnLine_103 kc_0 ?_
  refine r_istore_n (ls2 := [(2, ai (0 : Int32)), (0, ar v0), (1, ai v1)]) d_M_columnLine_104 (nle rfl) rfl ?_
  obtain ⟨n40, hw⟩ := hw
  refine r_pick (ls2 := [(0, ar v0), (1, ai v1), (2, ai (0 : Int32))]) [1, 2, 0] rfl ?_
  exact s_M_columnLine_L105 hd hQ  n40 _ _ hw
set_option maxRecDepth 100000 in
set_option maxHeartbeats 4000000 in
theorem s_M_columnLine_B27 {d : Nat} (hd : 4 ≤ d + 1) {Q : Hp → Prop} {QQ : Option AV → Hp → Prop} (hQ : ∀ h9, Q h9 → QQ none h9) {v0 : Nat} {v1 : Int32} {h : Hp} (hw : w_M_columnLine_B27 Q  v0 v1 h) : aW none m_M_columnLine (d + 1) 27 [(0, ar v0), (1, ai v1)] [] h 0 0 QQ := by
  unfold w_M_columnLine_B27 at hw
  refine r_aload_n (j := 0) d_M_columnLine_27 rfl ?_
  obtain ⟨q5, hw⟩ := hw
  refine r_getI d_M_columnLine_28 ok_12 (nle rfl) (nle rfl) rfl lf_M_182 q5 ?_
  refine r_if_le d_M_columnLine_31 (fun w9 => ?_) (fun w9 => ?_)
  · replace hw := hw.1 w9
    refine r_aload_n (j := 0) d_M_columnLine_35 rfl ?_
    refine r_getI d_M_columnLine_36 ok_12 (nle rfl) (nle rfl) rfl lf_M_172 q5 ?_
    refine r_iconst d_M_columnLine_39 kc_1 ?_
    refine r_icmp_ne d_M_columnLine_40 (fun w9 => ?_) (fun w9 => ?_)
    · replace hw := hw.2 w9
      exact s_M_columnLine_B98 hd hQ  hw
    · replace hw := hw.1 w9
      refine r_aload_n (j := 0) d_M_columnLine_43 rfl ?_
      refine r_getL d_M_columnLine_44 ok_12 (nle rfl) (nle rfl) rfl lf_M_165 q5 ?_
      refine r_ldc2 d_M_columnLine_47 lc_M_215 ?_
      refine r_lcmp d_M_columnLine_50 ?_
      refine r_if_eq d_M_columnLine_51 (fun w9 => ?_) (fun w9 => ?_)
      · replace hw := hw.1 ((lg_cmp_eq _ _).mp w9)
        exact s_M_columnLine_B98 hd hQ  hw
      · replace hw := hw.2 (fun g9 => w9 ((lg_cmp_eq _ _).mpr g9))
        refine r_aload_n (j := 0) d_M_columnLine_54 rfl ?_
        refine r_getL d_M_columnLine_55 ok_12 (nle rfl) (nle rfl) rfl lf_M_165 q5 ?_
        refine r_ldc2 d_M_columnLine_58 lc_M_217 ?_
        refine r_lcmp d_M_columnLine_61 ?_
        refine r_if_eq d_M_columnLine_62 (fun w9 => ?_) (fun w9 => ?_)
        · replace hw := hw.1 ((lg_cmp_eq _ _).mp w9)
          exact s_M_columnLine_B98 hd hQ  hw
        · replace hw := hw.2 (fun g9 => w9 ((lg_cmp_eq _ _).mpr g9))
          refine r_aload_n (j := 0) d_M_columnLine_65 rfl ?_
          refine r_getL d_M_columnLine_66 ok_12 (nle rfl) (nle rfl) rfl lf_M_165 q5 ?_
          refine r_ldc2 d_M_columnLine_69 lc_M_219 ?_
          refine r_lcmp d_M_columnLine_72 ?_
          refine r_if_eq d_M_columnLine_73 (fun w9 => ?_) (fun w9 => ?_)
          · replace hw := hw.1 ((lg_cmp_eq _ _).mp w9)
            exact s_M_columnLine_B98 hd hQ  hw
          · replace hw := hw.2 (fun g9 => w9 ((lg_cmp_eq _ _).mpr g9))
            refine r_aload_n (j := 0) d_M_columnLine_76 rfl ?_
            refine r_getL d_M_columnLine_77 ok_12 (nle rfl) (nle rfl) rfl lf_M_165 q5 ?_
            refine r_ldc2 d_M_columnLine_80 lc_M_221 ?_
            refine r_lcmp d_M_columnLine_83 ?_
            refine r_if_eq d_M_columnLine_84 (fun w9 => ?_) (fun w9 => ?_)
            · replace hw := hw.1 ((lg_cmp_eq _ _).mp w9)
              exact s_M_columnLine_B98 hd hQ  hw
            · replace hw := hw.2 (fun g9 => w9 ((lg_cmp_eq _ _).mpr g9))
              refine r_aload_n (j := 0) d_M_columnLine_87 rfl ?_
              refine r_getL d_M_columnLine_88 ok_12 (nle rfl) (nle rfl) rfl lf_M_165 q5 ?_
              refine r_ldc2 d_M_columnLine_91 lc_M_223 ?_
              refine r_lcmp d_M_columnLine_94 ?_
              refine r_if_ne d_M_columnLine_95 (fun w9 => ?_) (fun w9 => ?_)
              · replace hw := hw.2 (fun g9 => w9 ((lg_cmp_eq _ _).mpr g9))
                refine r_iconst d_M_columnLine_103 kc_0 ?_
                refine r_istore_n (ls2 := [(2, ai (0 : Int32)), (0, ar v0), (1, ai v1)]) d_M_columnLine_104 (nle rfl) rfl ?_
                obtain ⟨n41, hw⟩ := hw
                refine r_pick (ls2 := [(0, ar v0), (1, ai v1), (2, ai (0 : Int32))]) [1, 2, 0] rfl ?_
                exact s_M_columnLine_L105 hd hQ  n41 _ _ hw
              · replace hw := hw.1 ((lg_cmp_eq _ _).mp w9)
                exact s_M_columnLine_B98 hd hQ  hw
  · replace hw := hw.2 w9
    exact r_return d_M_columnLine_34.1 rfl (hQ _ hw)
set_option maxRecDepth 100000 in
set_option maxHeartbeats 4000000 in
theorem s_M_columnLine_B16 {d : Nat} (hd : 4 ≤ d + 1) {Q : Hp → Prop} {QQ : Option AV → Hp → Prop} (hQ : ∀ h9, Q h9 → QQ none h9) {v0 : Nat} {v1 : Int32} {h : Hp} (hw : w_M_columnLine_B16 Q  v0 v1 h) : aW none m_M_columnLine (d + 1) 16 [(0, ar v0), (1, ai v1)] [] h 0 0 QQ := by
  unfold w_M_columnLine_B16 at hw
  refine r_aload_n (j := 0) d_M_columnLine_16 rfl ?_
  obtain ⟨q4, hw⟩ := hw
  refine r_callV (av := []) (rest := []) (ci := 12) d_M_columnLine_17 mk_M_isGood ll_M_188 im_M_isGood se_M_isGood rfl (nle rfl) rfl rfl (nle rfl) q4 (s_M_isGood  hw (fun r3 h2 hw => ?_))
  show aW none m_M_columnLine (d + 1) 20 [(0, ar v0), (1, ai v1)] [ai (b2i r3)] h2 0 0 QQ
  refine r_if_eq d_M_columnLine_20 (fun w9 => ?_) (fun w9 => ?_)
  · replace hw := hw.1 (b2i_0.mp w9)
    exact s_M_columnLine_B27 hd hQ  hw
  · replace hw := hw.2 (fun g9 => w9 (b2i_0.mpr g9))
    refine r_aload_n (j := 0) d_M_columnLine_23 rfl ?_
    obtain ⟨q43, hw⟩ := hw
    refine r_callV (av := []) (rest := []) (ci := 12) d_M_columnLine_24 mk_M_goOn ll_M_192 im_M_goOn se_M_goOn rfl (nle rfl) rfl rfl (nle rfl) q43 (s_M_goOn (by omega) hw (fun h42 hw => ?_))
    show aW none m_M_columnLine (d + 1) 27 [(0, ar v0), (1, ai v1)] [] h42 0 0 QQ
    exact s_M_columnLine_B27 hd hQ  hw
set_option maxRecDepth 100000 in
set_option maxHeartbeats 4000000 in
theorem s_M_columnLine {d : Nat} (hd : 4 ≤ d) {v0 : Nat} {h : Hp} {Q : Hp → Prop} {QQ : Option AV → Hp → Prop} (hw : w_M_columnLine v0 h Q) (hQ : ∀ h9, Q h9 → QQ none h9) : aCall m_M_columnLine d [ar v0] h 0 0 QQ := by
  obtain ⟨d, rfl⟩ : ∃ d9, d = d9 + 1 := ⟨d - 1, by omega⟩
  refine aCall_in pl_M_columnLine (nle rfl) ?_
  show aW none m_M_columnLine (d + 1) 0 [(0, ar v0)] [] h 0 0 QQ
  unfold w_M_columnLine at hw
  refine r_aload_n (j := 0) d_M_columnLine_0 rfl ?_
  obtain ⟨q1, hw⟩ := hw
  refine r_getI d_M_columnLine_1 ok_12 (nle rfl) (nle rfl) rfl lf_M_202 q1 ?_
  refine r_istore_n (ls2 := [(1, ai (gI h v0 16)), (0, ar v0)]) d_M_columnLine_4 (nle rfl) rfl ?_
  refine r_iload_n (j := 0) d_M_columnLine_5 rfl ?_
  refine r_bipush d_M_columnLine_6 kb_8 ?_
  refine r_icmp_ne d_M_columnLine_8 (fun w9 => ?_) (fun w9 => ?_)
  · replace hw := hw.2 w9
    refine r_pick (ls2 := [(0, ar v0), (1, ai (gI h v0 16))]) [1, 0] rfl ?_
    exact s_M_columnLine_B16 hd hQ  hw
  · replace hw := hw.1 w9
    refine r_aload_n (j := 1) d_M_columnLine_11 rfl ?_
    refine r_iconst d_M_columnLine_12 kc_2 ?_
    refine r_callV (av := [ai (2 : Int32)]) (rest := []) (ci := 12) d_M_columnLine_13 mk_M_wrong ll_M_185 im_M_wrong se_M_wrong rfl (nle rfl) rfl rfl (nle rfl) q1 (s_M_wrong  hw (fun h44 hw => ?_))
    show aW none m_M_columnLine (d + 1) 16 [(1, ai (gI h v0 16)), (0, ar v0)] [] h44 0 0 QQ
    refine r_pick (ls2 := [(0, ar v0), (1, ai (gI h v0 16))]) [1, 0] rfl ?_
    exact s_M_columnLine_B16 hd hQ  hw
set_option maxRecDepth 100000 in
set_option maxHeartbeats 4000000 in
theorem s_M_needLine_L30 {d : Nat} (hd : 4 ≤ d + 1) {Q : Hp → Prop} {QQ : Option AV → Hp → Prop} (hQ : ∀ h9, Q h9 → QQ none h9) {v0 : Nat} : ∀ (n : Nat) (v1 : Int32) (h : Hp), w_M_needLine_L30 Q  v0 n v1 h → aW none m_M_needLine (d + 1) 30 [(0, ar v0), (1, ai v1)] [] h 0 0 QQ := by
  intro n
  induction n with
  | zero => intro v1 h hw; exact hw.elim
  | succ n ih =>
    intro v1 h hw
    unfold w_M_needLine_L30 at hw
    refine r_iload_n (j := 1) d_M_needLine_30 rfl ?_
    refine r_aload_n (j := 0) d_M_needLine_31 rfl ?_
    obtain ⟨q5, hw⟩ := hw
    refine r_getI d_M_needLine_32 ok_12 (nle rfl) (nle rfl) rfl lf_M_199 q5 ?_
    refine r_icmp_ge d_M_needLine_35 (fun w9 => ?_) (fun w9 => ?_)
    · replace hw := hw.1 w9
      exact r_return d_M_needLine_59.1 rfl (hQ _ hw)
    · replace hw := hw.2 w9
      refine r_aload_n (j := 0) d_M_needLine_38 rfl ?_
      refine r_getR d_M_needLine_39 ok_12 (nle rfl) (nle rfl) rfl lf_M_20 q5 ?_
      refine r_bipush d_M_needLine_42 kb_32 ?_
      refine r_iload_n (j := 1) d_M_needLine_44 rfl ?_
      refine r_iadd d_M_needLine_45 ?_
      refine r_aload_n (j := 0) d_M_needLine_46 rfl ?_
      refine r_bipush d_M_needLine_47 kb_20 ?_
      refine r_callV (av := [ai (20 : Int32)]) (rest := [ai ((32 : Int32) + v1), ar (gR h v0 12)]) (ci := 12) d_M_needLine_49 mk_M_signed ll_M_225 im_M_signed se_M_signed rfl (nle rfl) rfl rfl (nle rfl) q5 (s_M_signed (by omega) hw (fun r7 h6 hw => ?_))
      show aW none m_M_needLine (d + 1) 52 [(0, ar v0), (1, ai v1)] [ai r7, ai ((32 : Int32) + v1), ar (gR h v0 12)] h6 0 0 QQ
      obtain ⟨q8, hw⟩ := hw
      obtain ⟨q9, hw⟩ := hw
      refine r_iast d_M_needLine_52 q8 q9 ?_
      refine r_iinc (j := 1) (ls2 := [(1, ai (v1 + (1 : Int32))), (0, ar v0)]) d_M_needLine_53 rfl (congrArg (HAdd.hAdd v1) kc_1) (nle rfl) rfl ?_
      refine r_goto d_M_needLine_56 ?_
      refine r_pick (ls2 := [(0, ar v0), (1, ai (v1 + (1 : Int32)))]) [1, 0] rfl ?_
      exact ih _ _ hw
set_option maxRecDepth 100000 in
set_option maxHeartbeats 4000000 in
theorem s_M_needLine_B12 {d : Nat} (hd : 4 ≤ d + 1) {Q : Hp → Prop} {QQ : Option AV → Hp → Prop} (hQ : ∀ h9, Q h9 → QQ none h9) {v0 : Nat} {h : Hp} (hw : w_M_needLine_B12 Q  v0 h) : aW none m_M_needLine (d + 1) 12 [(0, ar v0)] [] h 0 0 QQ := by
  unfold w_M_needLine_B12 at hw
  refine r_aload_n (j := 0) d_M_needLine_12 rfl ?_
  refine r_iconst d_M_needLine_13 kc_1 ?_
  obtain ⟨q2, hw⟩ := hw
  refine r_putZ d_M_needLine_14 ok_12 (nle rfl) (nle rfl) rfl lf_M_209 rfl q2 (Or.inr rfl) ?_
  refine r_aload_n (j := 0) d_M_needLine_17 rfl ?_
  refine r_callV (av := []) (rest := []) (ci := 12) d_M_needLine_18 mk_M_isGood ll_M_188 im_M_isGood se_M_isGood rfl (nle rfl) rfl rfl (nle rfl) q2 (s_M_isGood  hw (fun r4 h3 hw => ?_))
  show aW none m_M_needLine (d + 1) 21 [(0, ar v0)] [ai (b2i r4)] h3 0 0 QQ
  refine r_if_eq d_M_needLine_21 (fun w9 => ?_) (fun w9 => ?_)
  · replace hw := hw.1 (b2i_0.mp w9)
    refine r_iconst d_M_needLine_28 kc_0 ?_
    refine r_istore_n (ls2 := [(1, ai (0 : Int32)), (0, ar v0)]) d_M_needLine_29 (nle rfl) rfl ?_
    obtain ⟨n10, hw⟩ := hw
    refine r_pick (ls2 := [(0, ar v0), (1, ai (0 : Int32))]) [1, 0] rfl ?_
    exact s_M_needLine_L30 hd hQ  n10 _ _ hw
  · replace hw := hw.2 (fun g9 => w9 (b2i_0.mpr g9))
    refine r_aload_n (j := 0) d_M_needLine_24 rfl ?_
    obtain ⟨q12, hw⟩ := hw
    refine r_callV (av := []) (rest := []) (ci := 12) d_M_needLine_25 mk_M_goOn ll_M_192 im_M_goOn se_M_goOn rfl (nle rfl) rfl rfl (nle rfl) q12 (s_M_goOn (by omega) hw (fun h11 hw => ?_))
    show aW none m_M_needLine (d + 1) 28 [(0, ar v0)] [] h11 0 0 QQ
    refine r_iconst d_M_needLine_28 kc_0 ?_
    refine r_istore_n (ls2 := [(1, ai (0 : Int32)), (0, ar v0)]) d_M_needLine_29 (nle rfl) rfl ?_
    obtain ⟨n13, hw⟩ := hw
    refine r_pick (ls2 := [(0, ar v0), (1, ai (0 : Int32))]) [1, 0] rfl ?_
    exact s_M_needLine_L30 hd hQ  n13 _ _ hw
set_option maxRecDepth 100000 in
set_option maxHeartbeats 4000000 in
theorem s_M_needLine {d : Nat} (hd : 4 ≤ d) {v0 : Nat} {h : Hp} {Q : Hp → Prop} {QQ : Option AV → Hp → Prop} (hw : w_M_needLine v0 h Q) (hQ : ∀ h9, Q h9 → QQ none h9) : aCall m_M_needLine d [ar v0] h 0 0 QQ := by
  obtain ⟨d, rfl⟩ : ∃ d9, d = d9 + 1 := ⟨d - 1, by omega⟩
  refine aCall_in pl_M_needLine (nle rfl) ?_
  show aW none m_M_needLine (d + 1) 0 [(0, ar v0)] [] h 0 0 QQ
  unfold w_M_needLine at hw
  refine r_aload_n (j := 0) d_M_needLine_0 rfl ?_
  obtain ⟨q1, hw⟩ := hw
  refine r_getI d_M_needLine_1 ok_12 (nle rfl) (nle rfl) rfl lf_M_209 q1 ?_
  refine r_if_eq d_M_needLine_4 (fun w9 => ?_) (fun w9 => ?_)
  · replace hw := hw.1 w9
    exact s_M_needLine_B12 hd hQ  hw
  · replace hw := hw.2 w9
    refine r_aload_n (j := 0) d_M_needLine_7 rfl ?_
    refine r_iconst d_M_needLine_8 kc_3 ?_
    refine r_callV (av := [ai (3 : Int32)]) (rest := []) (ci := 12) d_M_needLine_9 mk_M_wrong ll_M_185 im_M_wrong se_M_wrong rfl (nle rfl) rfl rfl (nle rfl) q1 (s_M_wrong  hw (fun h14 hw => ?_))
    show aW none m_M_needLine (d + 1) 12 [(0, ar v0)] [] h14 0 0 QQ
    exact s_M_needLine_B12 hd hQ  hw
set_option maxRecDepth 100000 in
set_option maxHeartbeats 4000000 in
theorem s_M_stepsLine_B28 {d : Nat} (hd : 3 ≤ d + 1) {Q : Hp → Prop} {QQ : Option AV → Hp → Prop} (hQ : ∀ h9, Q h9 → QQ none h9) {v0 : Nat} {h : Hp} (hw : w_M_stepsLine_B28 Q  v0 h) : aW none m_M_stepsLine (d + 1) 28 [(0, ar v0)] [] h 0 0 QQ := by
  unfold w_M_stepsLine_B28 at hw
  refine r_aload_n (j := 0) d_M_stepsLine_28 rfl ?_
  obtain ⟨q5, hw⟩ := hw
  refine r_getR d_M_stepsLine_29 ok_12 (nle rfl) (nle rfl) rfl lf_M_20 q5 ?_
  refine r_bipush d_M_stepsLine_32 kb_35 ?_
  refine r_aload_n (j := 0) d_M_stepsLine_34 rfl ?_
  refine r_iconst d_M_stepsLine_35 kc_1 ?_
  refine r_bipush d_M_stepsLine_36 kb_12 ?_
  refine r_callV (av := [ai (1 : Int32), ai (12 : Int32)]) (rest := [ai (35 : Int32), ar (gR h v0 12)]) (ci := 12) d_M_stepsLine_38 mk_M_numberIn ll_M_195 im_M_numberIn se_M_numberIn rfl (nle rfl) rfl rfl (nle rfl) q5 (s_M_numberIn (by omega) hw (fun r7 h6 hw => ?_))
  show aW none m_M_stepsLine (d + 1) 41 [(0, ar v0)] [ai r7, ai (35 : Int32), ar (gR h v0 12)] h6 0 0 QQ
  obtain ⟨q8, hw⟩ := hw
  obtain ⟨q9, hw⟩ := hw
  refine r_iast d_M_stepsLine_41 q8 q9 ?_
  exact r_return d_M_stepsLine_42.1 rfl (hQ _ hw)
set_option maxRecDepth 100000 in
set_option maxHeartbeats 4000000 in
theorem s_M_stepsLine_B12 {d : Nat} (hd : 3 ≤ d + 1) {Q : Hp → Prop} {QQ : Option AV → Hp → Prop} (hQ : ∀ h9, Q h9 → QQ none h9) {v0 : Nat} {h : Hp} (hw : w_M_stepsLine_B12 Q  v0 h) : aW none m_M_stepsLine (d + 1) 12 [(0, ar v0)] [] h 0 0 QQ := by
  unfold w_M_stepsLine_B12 at hw
  refine r_aload_n (j := 0) d_M_stepsLine_12 rfl ?_
  refine r_iconst d_M_stepsLine_13 kc_1 ?_
  obtain ⟨q2, hw⟩ := hw
  refine r_putZ d_M_stepsLine_14 ok_12 (nle rfl) (nle rfl) rfl lf_M_212 rfl q2 (Or.inr rfl) ?_
  refine r_aload_n (j := 0) d_M_stepsLine_17 rfl ?_
  refine r_callV (av := []) (rest := []) (ci := 12) d_M_stepsLine_18 mk_M_isGood ll_M_188 im_M_isGood se_M_isGood rfl (nle rfl) rfl rfl (nle rfl) q2 (s_M_isGood  hw (fun r4 h3 hw => ?_))
  show aW none m_M_stepsLine (d + 1) 21 [(0, ar v0)] [ai (b2i r4)] h3 0 0 QQ
  refine r_if_eq d_M_stepsLine_21 (fun w9 => ?_) (fun w9 => ?_)
  · replace hw := hw.1 (b2i_0.mp w9)
    exact s_M_stepsLine_B28 hd hQ  hw
  · replace hw := hw.2 (fun g9 => w9 (b2i_0.mpr g9))
    refine r_aload_n (j := 0) d_M_stepsLine_24 rfl ?_
    obtain ⟨q11, hw⟩ := hw
    refine r_callV (av := []) (rest := []) (ci := 12) d_M_stepsLine_25 mk_M_goOn ll_M_192 im_M_goOn se_M_goOn rfl (nle rfl) rfl rfl (nle rfl) q11 (s_M_goOn (by omega) hw (fun h10 hw => ?_))
    show aW none m_M_stepsLine (d + 1) 28 [(0, ar v0)] [] h10 0 0 QQ
    exact s_M_stepsLine_B28 hd hQ  hw
set_option maxRecDepth 100000 in
set_option maxHeartbeats 4000000 in
theorem s_M_stepsLine {d : Nat} (hd : 3 ≤ d) {v0 : Nat} {h : Hp} {Q : Hp → Prop} {QQ : Option AV → Hp → Prop} (hw : w_M_stepsLine v0 h Q) (hQ : ∀ h9, Q h9 → QQ none h9) : aCall m_M_stepsLine d [ar v0] h 0 0 QQ := by
  obtain ⟨d, rfl⟩ : ∃ d9, d = d9 + 1 := ⟨d - 1, by omega⟩
  refine aCall_in pl_M_stepsLine (nle rfl) ?_
  show aW none m_M_stepsLine (d + 1) 0 [(0, ar v0)] [] h 0 0 QQ
  unfold w_M_stepsLine at hw
  refine r_aload_n (j := 0) d_M_stepsLine_0 rfl ?_
  obtain ⟨q1, hw⟩ := hw
  refine r_getI d_M_stepsLine_1 ok_12 (nle rfl) (nle rfl) rfl lf_M_212 q1 ?_
  refine r_if_eq d_M_stepsLine_4 (fun w9 => ?_) (fun w9 => ?_)
  · replace hw := hw.1 w9
    exact s_M_stepsLine_B12 hd hQ  hw
  · replace hw := hw.2 w9
    refine r_aload_n (j := 0) d_M_stepsLine_7 rfl ?_
    refine r_iconst d_M_stepsLine_8 kc_3 ?_
    refine r_callV (av := [ai (3 : Int32)]) (rest := []) (ci := 12) d_M_stepsLine_9 mk_M_wrong ll_M_185 im_M_wrong se_M_wrong rfl (nle rfl) rfl rfl (nle rfl) q1 (s_M_wrong  hw (fun h12 hw => ?_))
    show aW none m_M_stepsLine (d + 1) 12 [(0, ar v0)] [] h12 0 0 QQ
    exact s_M_stepsLine_B12 hd hQ  hw
set_option maxRecDepth 100000 in
set_option maxHeartbeats 4000000 in
theorem s_M_line_B98 {d : Nat} (hd : 5 ≤ d + 1) {Q : Hp → Prop} {QQ : Option AV → Hp → Prop} (hQ : ∀ h9, Q h9 → QQ none h9) {v0 : Nat} {h : Hp} (hw : w_M_line_B98 Q  v0 h) : aW none m_M_line (d + 1) 98 [(0, ar v0)] [] h 0 0 QQ := by
  unfold w_M_line_B98 at hw
  refine r_aload_n (j := 0) d_M_line_98 rfl ?_
  obtain ⟨q20, hw⟩ := hw
  refine r_callV (av := []) (rest := []) (ci := 12) d_M_line_99 mk_M_isGood ll_M_188 im_M_isGood se_M_isGood rfl (nle rfl) rfl rfl (nle rfl) q20 (s_M_isGood  hw (fun r19 h18 hw => ?_))
  show aW none m_M_line (d + 1) 102 [(0, ar v0)] [ai (b2i r19)] h18 0 0 QQ
  refine r_if_eq d_M_line_102 (fun w9 => ?_) (fun w9 => ?_)
  · replace hw := hw.1 (b2i_0.mp w9)
    exact r_return d_M_line_109.1 rfl (hQ _ hw)
  · replace hw := hw.2 (fun g9 => w9 (b2i_0.mpr g9))
    refine r_aload_n (j := 0) d_M_line_105 rfl ?_
    obtain ⟨q22, hw⟩ := hw
    refine r_callV (av := []) (rest := []) (ci := 12) d_M_line_106 mk_M_goOn ll_M_192 im_M_goOn se_M_goOn rfl (nle rfl) rfl rfl (nle rfl) q22 (s_M_goOn (by omega) hw (fun h21 hw => ?_))
    show aW none m_M_line (d + 1) 109 [(0, ar v0)] [] h21 0 0 QQ
    exact r_return d_M_line_109.1 rfl (hQ _ hw)
set_option maxRecDepth 100000 in
set_option maxHeartbeats 4000000 in
theorem s_M_line_B73 {d : Nat} (hd : 5 ≤ d + 1) {Q : Hp → Prop} {QQ : Option AV → Hp → Prop} (hQ : ∀ h9, Q h9 → QQ none h9) {v0 : Nat} {h : Hp} (hw : w_M_line_B73 Q  v0 h) : aW none m_M_line (d + 1) 73 [(0, ar v0)] [] h 0 0 QQ := by
  unfold w_M_line_B73 at hw
  refine r_aload_n (j := 0) d_M_line_73 rfl ?_
  refine r_iconst d_M_line_74 kc_1 ?_
  obtain ⟨q15, hw⟩ := hw
  refine r_putZ d_M_line_75 ok_12 (nle rfl) (nle rfl) rfl lf_M_205 rfl q15 (Or.inr rfl) ?_
  refine r_aload_n (j := 0) d_M_line_78 rfl ?_
  refine r_callV (av := []) (rest := []) (ci := 12) d_M_line_79 mk_M_isGood ll_M_188 im_M_isGood se_M_isGood rfl (nle rfl) rfl rfl (nle rfl) q15 (s_M_isGood  hw (fun r17 h16 hw => ?_))
  show aW none m_M_line (d + 1) 82 [(0, ar v0)] [ai (b2i r17)] h16 0 0 QQ
  refine r_if_eq d_M_line_82 (fun w9 => ?_) (fun w9 => ?_)
  · replace hw := hw.1 (b2i_0.mp w9)
    exact s_M_line_B98 hd hQ  hw
  · replace hw := hw.2 (fun g9 => w9 (b2i_0.mpr g9))
    refine r_aload_n (j := 0) d_M_line_85 rfl ?_
    obtain ⟨q23, hw⟩ := hw
    refine r_getI d_M_line_86 ok_12 (nle rfl) (nle rfl) rfl lf_M_172 q23 ?_
    refine r_iconst d_M_line_89 kc_3 ?_
    refine r_icmp_eq d_M_line_90 (fun w9 => ?_) (fun w9 => ?_)
    · replace hw := hw.1 w9
      exact s_M_line_B98 hd hQ  hw
    · replace hw := hw.2 w9
      refine r_aload_n (j := 0) d_M_line_93 rfl ?_
      refine r_iconst d_M_line_94 kc_2 ?_
      refine r_callV (av := [ai (2 : Int32)]) (rest := []) (ci := 12) d_M_line_95 mk_M_wrong ll_M_185 im_M_wrong se_M_wrong rfl (nle rfl) rfl rfl (nle rfl) q23 (s_M_wrong  hw (fun h24 hw => ?_))
      show aW none m_M_line (d + 1) 98 [(0, ar v0)] [] h24 0 0 QQ
      exact s_M_line_B98 hd hQ  hw
set_option maxRecDepth 100000 in
set_option maxHeartbeats 4000000 in
theorem s_M_line {d : Nat} (hd : 5 ≤ d) {v0 : Nat} {h : Hp} {Q : Hp → Prop} {QQ : Option AV → Hp → Prop} (hw : w_M_line v0 h Q) (hQ : ∀ h9, Q h9 → QQ none h9) : aCall m_M_line d [ar v0] h 0 0 QQ := by
  obtain ⟨d, rfl⟩ : ∃ d9, d = d9 + 1 := ⟨d - 1, by omega⟩
  refine aCall_in pl_M_line (nle rfl) ?_
  show aW none m_M_line (d + 1) 0 [(0, ar v0)] [] h 0 0 QQ
  unfold w_M_line at hw
  refine r_aload_n (j := 0) d_M_line_0 rfl ?_
  refine r_ldc2 d_M_line_1 lc_M_215 ?_
  obtain ⟨q3, hw⟩ := hw
  refine r_callV (av := [al (1919907699 : Int64)]) (rest := []) (ci := 12) d_M_line_4 mk_M_isWord ll_M_228 im_M_isWord se_M_isWord rfl (nle rfl) rfl rfl (nle rfl) q3 (s_M_isWord  hw (fun r2 h1 hw => ?_))
  show aW none m_M_line (d + 1) 7 [(0, ar v0)] [ai (b2i r2)] h1 0 0 QQ
  refine r_if_eq d_M_line_7 (fun w9 => ?_) (fun w9 => ?_)
  · replace hw := hw.1 (b2i_0.mp w9)
    refine r_aload_n (j := 0) d_M_line_17 rfl ?_
    refine r_ldc2 d_M_line_18 lc_M_217 ?_
    obtain ⟨q6, hw⟩ := hw
    refine r_callV (av := [al (109330212154734 : Int64)]) (rest := []) (ci := 12) d_M_line_21 mk_M_isWord ll_M_228 im_M_isWord se_M_isWord rfl (nle rfl) rfl rfl (nle rfl) q6 (s_M_isWord  hw (fun r5 h4 hw => ?_))
    show aW none m_M_line (d + 1) 24 [(0, ar v0)] [ai (b2i r5)] h4 0 0 QQ
    refine r_if_eq d_M_line_24 (fun w9 => ?_) (fun w9 => ?_)
    · replace hw := hw.1 (b2i_0.mp w9)
      refine r_aload_n (j := 0) d_M_line_34 rfl ?_
      refine r_ldc2 d_M_line_35 lc_M_221 ?_
      obtain ⟨q9, hw⟩ := hw
      refine r_callV (av := [al (1852138852 : Int64)]) (rest := []) (ci := 12) d_M_line_38 mk_M_isWord ll_M_228 im_M_isWord se_M_isWord rfl (nle rfl) rfl rfl (nle rfl) q9 (s_M_isWord  hw (fun r8 h7 hw => ?_))
      show aW none m_M_line (d + 1) 41 [(0, ar v0)] [ai (b2i r8)] h7 0 0 QQ
      refine r_if_eq d_M_line_41 (fun w9 => ?_) (fun w9 => ?_)
      · replace hw := hw.1 (b2i_0.mp w9)
        refine r_aload_n (j := 0) d_M_line_51 rfl ?_
        refine r_ldc2 d_M_line_52 lc_M_223 ?_
        obtain ⟨q12, hw⟩ := hw
        refine r_callV (av := [al (495874044019 : Int64)]) (rest := []) (ci := 12) d_M_line_55 mk_M_isWord ll_M_228 im_M_isWord se_M_isWord rfl (nle rfl) rfl rfl (nle rfl) q12 (s_M_isWord  hw (fun r11 h10 hw => ?_))
        show aW none m_M_line (d + 1) 58 [(0, ar v0)] [ai (b2i r11)] h10 0 0 QQ
        refine r_if_eq d_M_line_58 (fun w9 => ?_) (fun w9 => ?_)
        · replace hw := hw.1 (b2i_0.mp w9)
          refine r_aload_n (j := 0) d_M_line_68 rfl ?_
          refine r_iconst d_M_line_69 kc_2 ?_
          obtain ⟨q14, hw⟩ := hw
          refine r_callV (av := [ai (2 : Int32)]) (rest := []) (ci := 12) d_M_line_70 mk_M_wrong ll_M_185 im_M_wrong se_M_wrong rfl (nle rfl) rfl rfl (nle rfl) q14 (s_M_wrong  hw (fun h13 hw => ?_))
          show aW none m_M_line (d + 1) 73 [(0, ar v0)] [] h13 0 0 QQ
          exact s_M_line_B73 hd hQ  hw
        · replace hw := hw.2 (fun g9 => w9 (b2i_0.mpr g9))
          refine r_aload_n (j := 0) d_M_line_61 rfl ?_
          obtain ⟨q26, hw⟩ := hw
          refine r_callV (av := []) (rest := []) (ci := 12) d_M_line_62 mk_M_stepsLine ll_M_241 im_M_stepsLine se_M_stepsLine rfl (nle rfl) rfl rfl (nle rfl) q26 (s_M_stepsLine (by omega) hw (fun h25 hw => ?_))
          show aW none m_M_line (d + 1) 65 [(0, ar v0)] [] h25 0 0 QQ
          refine r_goto d_M_line_65 ?_
          exact s_M_line_B73 hd hQ  hw
      · replace hw := hw.2 (fun g9 => w9 (b2i_0.mpr g9))
        refine r_aload_n (j := 0) d_M_line_44 rfl ?_
        obtain ⟨q28, hw⟩ := hw
        refine r_callV (av := []) (rest := []) (ci := 12) d_M_line_45 mk_M_needLine ll_M_238 im_M_needLine se_M_needLine rfl (nle rfl) rfl rfl (nle rfl) q28 (s_M_needLine (by omega) hw (fun h27 hw => ?_))
        show aW none m_M_line (d + 1) 48 [(0, ar v0)] [] h27 0 0 QQ
        refine r_goto d_M_line_48 ?_
        exact s_M_line_B73 hd hQ  hw
    · replace hw := hw.2 (fun g9 => w9 (b2i_0.mpr g9))
      refine r_aload_n (j := 0) d_M_line_27 rfl ?_
      obtain ⟨q30, hw⟩ := hw
      refine r_callV (av := []) (rest := []) (ci := 12) d_M_line_28 mk_M_columnLine ll_M_235 im_M_columnLine se_M_columnLine rfl (nle rfl) rfl rfl (nle rfl) q30 (s_M_columnLine (by omega) hw (fun h29 hw => ?_))
      show aW none m_M_line (d + 1) 31 [(0, ar v0)] [] h29 0 0 QQ
      refine r_goto d_M_line_31 ?_
      exact s_M_line_B73 hd hQ  hw
  · replace hw := hw.2 (fun g9 => w9 (b2i_0.mpr g9))
    refine r_aload_n (j := 0) d_M_line_10 rfl ?_
    obtain ⟨q32, hw⟩ := hw
    refine r_callV (av := []) (rest := []) (ci := 12) d_M_line_11 mk_M_rowsLine ll_M_232 im_M_rowsLine se_M_rowsLine rfl (nle rfl) rfl rfl (nle rfl) q32 (s_M_rowsLine (by omega) hw (fun h31 hw => ?_))
    show aW none m_M_line (d + 1) 14 [(0, ar v0)] [] h31 0 0 QQ
    refine r_goto d_M_line_14 ?_
    exact s_M_line_B73 hd hQ  hw
set_option maxRecDepth 100000 in
set_option maxHeartbeats 4000000 in
theorem s_M_program_B57 {d : Nat} (hd : 6 ≤ d + 1) {Q : Int32 → Hp → Prop} {QQ : Option AV → Hp → Prop} (hQ : ∀ r9 h9, Q r9 h9 → QQ (some (ai r9)) h9) {v0 : Nat} {h : Hp} (hw : w_M_program_B57 Q  v0 h) : aW none m_M_program (d + 1) 57 [(0, ar v0)] [] h 0 0 QQ := by
  unfold w_M_program_B57 at hw
  refine r_aload_n (j := 0) d_M_program_57 rfl ?_
  refine r_aload_n (j := 0) d_M_program_58 rfl ?_
  obtain ⟨q8, hw⟩ := hw
  refine r_getI d_M_program_59 ok_12 (nle rfl) (nle rfl) rfl lf_M_182 q8 ?_
  refine r_putI d_M_program_62 ok_12 (nle rfl) (nle rfl) rfl lf_M_265 rfl q8 ?_
  refine r_aload_n (j := 0) d_M_program_65 rfl ?_
  refine r_aload_n (j := 0) d_M_program_66 rfl ?_
  refine r_getI d_M_program_67 ok_12 (nle rfl) (nle rfl) rfl lf_M_13 q8 ?_
  refine r_putI d_M_program_70 ok_12 (nle rfl) (nle rfl) rfl lf_M_17 rfl q8 ?_
  refine r_aload_n (j := 0) d_M_program_73 rfl ?_
  refine r_getI d_M_program_74 ok_12 (nle rfl) (nle rfl) rfl lf_M_182 q8 ?_
  refine r_if_le d_M_program_77 (fun w9 => ?_) (fun w9 => ?_)
  · replace hw := hw.1 w9
    refine r_aload_n (j := 0) d_M_program_82 rfl ?_
    refine r_callV (av := []) (rest := []) (ci := 12) d_M_program_83 mk_M_takesOver ll_M_138 im_M_takesOver se_M_takesOver rfl (nle rfl) rfl rfl (nle rfl) q8 (s_M_takesOver  hw (fun h9 hw => ?_))
    show aW none m_M_program (d + 1) 86 [(0, ar v0)] [] h9 0 0 QQ
    refine r_aload_n (j := 0) d_M_program_86 rfl ?_
    obtain ⟨q10, hw⟩ := hw
    refine r_getI d_M_program_87 ok_12 (nle rfl) (nle rfl) rfl lf_M_247 q10 ?_
    exact r_ireturn d_M_program_90.1 rfl (hQ _ _ hw)
  · replace hw := hw.2 w9
    refine r_iconst d_M_program_80 kc_m1 ?_
    exact r_ireturn d_M_program_81.1 rfl (hQ _ _ hw)
set_option maxRecDepth 100000 in
set_option maxHeartbeats 4000000 in
theorem s_M_program_L36 {d : Nat} (hd : 6 ≤ d + 1) {Q : Int32 → Hp → Prop} {QQ : Option AV → Hp → Prop} (hQ : ∀ r9 h9, Q r9 h9 → QQ (some (ai r9)) h9) {v0 : Nat} : ∀ (n : Nat) (h : Hp), w_M_program_L36 Q  v0 n h → aW none m_M_program (d + 1) 36 [(0, ar v0)] [] h 0 0 QQ := by
  intro n
  induction n with
  | zero => intro h hw; exact hw.elim
  | succ n ih =>
    intro h hw
    unfold w_M_program_L36 at hw
    refine r_aload_n (j := 0) d_M_program_36 rfl ?_
    obtain ⟨q7, hw⟩ := hw
    refine r_callV (av := []) (rest := []) (ci := 12) d_M_program_37 mk_M_isGood ll_M_188 im_M_isGood se_M_isGood rfl (nle rfl) rfl rfl (nle rfl) q7 (s_M_isGood  hw (fun r6 h5 hw => ?_))
    show aW none m_M_program (d + 1) 40 [(0, ar v0)] [ai (b2i r6)] h5 0 0 QQ
    refine r_if_eq d_M_program_40 (fun w9 => ?_) (fun w9 => ?_)
    · replace hw := hw.1 (b2i_0.mp w9)
      exact s_M_program_B57 hd hQ  hw
    · replace hw := hw.2 (fun g9 => w9 (b2i_0.mpr g9))
      refine r_aload_n (j := 0) d_M_program_43 rfl ?_
      obtain ⟨q11, hw⟩ := hw
      refine r_getI d_M_program_44 ok_12 (nle rfl) (nle rfl) rfl lf_M_172 q11 ?_
      refine r_if_eq d_M_program_47 (fun w9 => ?_) (fun w9 => ?_)
      · replace hw := hw.1 w9
        exact s_M_program_B57 hd hQ  hw
      · replace hw := hw.2 w9
        refine r_aload_n (j := 0) d_M_program_50 rfl ?_
        refine r_callV (av := []) (rest := []) (ci := 12) d_M_program_51 mk_M_line ll_M_262 im_M_line se_M_line rfl (nle rfl) rfl rfl (nle rfl) q11 (s_M_line (by omega) hw (fun h12 hw => ?_))
        show aW none m_M_program (d + 1) 54 [(0, ar v0)] [] h12 0 0 QQ
        refine r_goto d_M_program_54 ?_
        exact ih _ hw
set_option maxRecDepth 100000 in
set_option maxHeartbeats 4000000 in
theorem s_M_program {d : Nat} (hd : 6 ≤ d) {v0 : Nat} {h : Hp} {Q : Int32 → Hp → Prop} {QQ : Option AV → Hp → Prop} (hw : w_M_program v0 h Q) (hQ : ∀ r9 h9, Q r9 h9 → QQ (some (ai r9)) h9) : aCall m_M_program d [ar v0] h 0 0 QQ := by
  obtain ⟨d, rfl⟩ : ∃ d9, d = d9 + 1 := ⟨d - 1, by omega⟩
  refine aCall_in pl_M_program (nle rfl) ?_
  show aW none m_M_program (d + 1) 0 [(0, ar v0)] [] h 0 0 QQ
  unfold w_M_program at hw
  refine r_aload_n (j := 0) d_M_program_0 rfl ?_
  refine r_aload_n (j := 0) d_M_program_1 rfl ?_
  obtain ⟨q1, hw⟩ := hw
  refine r_getI d_M_program_2 ok_12 (nle rfl) (nle rfl) rfl lf_M_141 q1 ?_
  refine r_putI d_M_program_5 ok_12 (nle rfl) (nle rfl) rfl lf_M_155 rfl q1 ?_
  refine r_aload_n (j := 0) d_M_program_8 rfl ?_
  refine r_iconst d_M_program_9 kc_0 ?_
  refine r_putI d_M_program_10 ok_12 (nle rfl) (nle rfl) rfl lf_M_141 rfl q1 ?_
  refine r_aload_n (j := 0) d_M_program_13 rfl ?_
  refine r_iconst d_M_program_14 kc_0 ?_
  refine r_putI d_M_program_15 ok_12 (nle rfl) (nle rfl) rfl lf_M_152 rfl q1 ?_
  refine r_aload_n (j := 0) d_M_program_18 rfl ?_
  refine r_iconst d_M_program_19 kc_0 ?_
  refine r_putI d_M_program_20 ok_12 (nle rfl) (nle rfl) rfl lf_M_182 rfl q1 ?_
  refine r_aload_n (j := 0) d_M_program_23 rfl ?_
  refine r_iconst d_M_program_24 kc_m1 ?_
  refine r_putI d_M_program_25 ok_12 (nle rfl) (nle rfl) rfl lf_M_13 rfl q1 ?_
  refine r_aload_n (j := 0) d_M_program_28 rfl ?_
  refine r_callV (av := []) (rest := []) (ci := 12) d_M_program_29 mk_M_begins ll_M_135 im_M_begins se_M_begins rfl (nle rfl) rfl rfl (nle rfl) q1 (s_M_begins  hw (fun h2 hw => ?_))
  show aW none m_M_program (d + 1) 32 [(0, ar v0)] [] h2 0 0 QQ
  refine r_aload_n (j := 0) d_M_program_32 rfl ?_
  obtain ⟨q4, hw⟩ := hw
  refine r_callV (av := []) (rest := []) (ci := 12) d_M_program_33 mk_M_goOn ll_M_192 im_M_goOn se_M_goOn rfl (nle rfl) rfl rfl (nle rfl) q4 (s_M_goOn (by omega) hw (fun h3 hw => ?_))
  show aW none m_M_program (d + 1) 36 [(0, ar v0)] [] h3 0 0 QQ
  obtain ⟨n13, hw⟩ := hw
  exact s_M_program_L36 hd hQ  n13 _ hw
set_option maxRecDepth 100000 in
set_option maxHeartbeats 4000000 in
theorem s_M_fault {d : Nat} {v0 : Nat} {v1 : Int32} {h : Hp} {Q : Int32 → Hp → Prop} {QQ : Option AV → Hp → Prop} (hw : w_M_fault v0 v1 h Q) (hQ : ∀ r9 h9, Q r9 h9 → QQ (some (ai r9)) h9) : aCall m_M_fault d [ar v0, ai v1] h 0 0 QQ := by
  refine aCall_in pl_M_fault (nle rfl) ?_
  show aW none m_M_fault d 0 [(0, ar v0), (1, ai v1)] [] h 0 0 QQ
  unfold w_M_fault at hw
  refine r_iload_n (j := 1) d_M_fault_0 rfl ?_
  refine r_if_ne d_M_fault_1 (fun w9 => ?_) (fun w9 => ?_)
  · replace hw := hw.2 w9
    refine r_iload_n (j := 1) d_M_fault_11 rfl ?_
    refine r_iconst d_M_fault_12 kc_1 ?_
    refine r_icmp_ne d_M_fault_13 (fun w9 => ?_) (fun w9 => ?_)
    · replace hw := hw.2 w9
      refine r_iconst d_M_fault_23 kc_m1 ?_
      exact r_ireturn d_M_fault_24.1 rfl (hQ _ _ hw)
    · replace hw := hw.1 w9
      refine r_aload_n (j := 0) d_M_fault_16 rfl ?_
      obtain ⟨q1, hw⟩ := hw
      refine r_getI d_M_fault_17 ok_12 (nle rfl) (nle rfl) rfl lf_M_17 q1 ?_
      refine r_goto d_M_fault_20 ?_
      exact r_ireturn d_M_fault_24.1 rfl (hQ _ _ hw)
  · replace hw := hw.1 w9
    refine r_aload_n (j := 0) d_M_fault_4 rfl ?_
    obtain ⟨q2, hw⟩ := hw
    refine r_getI d_M_fault_5 ok_12 (nle rfl) (nle rfl) rfl lf_M_265 q2 ?_
    refine r_goto d_M_fault_8 ?_
    exact r_ireturn d_M_fault_24.1 rfl (hQ _ _ hw)
set_option maxRecDepth 100000 in
set_option maxHeartbeats 4000000 in
theorem s_M_isColumn {d : Nat} (hd : 1 ≤ d) {v0 : Nat} {v1 : Int32} {h : Hp} {Q : Bool → Hp → Prop} {QQ : Option AV → Hp → Prop} (hw : w_M_isColumn v0 v1 h Q) (hQ : ∀ r9 h9, Q r9 h9 → QQ (some (ai (b2i r9))) h9) : aCall m_M_isColumn d [ar v0, ai v1] h 0 0 QQ := by
  obtain ⟨d, rfl⟩ : ∃ d9, d = d9 + 1 := ⟨d - 1, by omega⟩
  refine aCall_in pl_M_isColumn (nle rfl) ?_
  show aW none m_M_isColumn (d + 1) 0 [(0, ar v0), (1, ai v1)] [] h 0 0 QQ
  unfold w_M_isColumn at hw
  refine r_iload_n (j := 1) d_M_isColumn_0 rfl ?_
  refine r_iconst d_M_isColumn_1 kc_0 ?_
  refine r_aload_n (j := 0) d_M_isColumn_2 rfl ?_
  obtain ⟨q1, hw⟩ := hw
  refine r_getI d_M_isColumn_3 ok_12 (nle rfl) (nle rfl) rfl lf_M_247 q1 ?_
  refine r_iconst d_M_isColumn_6 kc_1 ?_
  refine r_isub d_M_isColumn_7 ?_
  refine r_callS (av := [ai v1, ai (0 : Int32), ai ((gI h v0 18) - (1 : Int32))]) (rest := []) d_M_isColumn_8 mk_M_isIn ll_M_148 st_M_isIn rfl rfl (nle rfl) (s_M_isIn  hw (fun r3 h2 hw => ?_))
  show aW none m_M_isColumn (d + 1) 11 [(0, ar v0), (1, ai v1)] [ai (b2i r3)] h2 0 0 QQ
  exact r_zreturn d_M_isColumn_11.1 rfl (b2i_B _) (hQ _ _ hw)
set_option maxRecDepth 100000 in
set_option maxHeartbeats 4000000 in
theorem s_M_isRow {d : Nat} (hd : 1 ≤ d) {v0 : Nat} {v1 : Int32} {h : Hp} {Q : Bool → Hp → Prop} {QQ : Option AV → Hp → Prop} (hw : w_M_isRow v0 v1 h Q) (hQ : ∀ r9 h9, Q r9 h9 → QQ (some (ai (b2i r9))) h9) : aCall m_M_isRow d [ar v0, ai v1] h 0 0 QQ := by
  obtain ⟨d, rfl⟩ : ∃ d9, d = d9 + 1 := ⟨d - 1, by omega⟩
  refine aCall_in pl_M_isRow (nle rfl) ?_
  show aW none m_M_isRow (d + 1) 0 [(0, ar v0), (1, ai v1)] [] h 0 0 QQ
  unfold w_M_isRow at hw
  refine r_iload_n (j := 1) d_M_isRow_0 rfl ?_
  refine r_iconst d_M_isRow_1 kc_0 ?_
  refine r_aload_n (j := 0) d_M_isRow_2 rfl ?_
  obtain ⟨q1, hw⟩ := hw
  refine r_getI d_M_isRow_3 ok_12 (nle rfl) (nle rfl) rfl lf_M_244 q1 ?_
  refine r_iconst d_M_isRow_6 kc_1 ?_
  refine r_isub d_M_isRow_7 ?_
  refine r_callS (av := [ai v1, ai (0 : Int32), ai ((gI h v0 17) - (1 : Int32))]) (rest := []) d_M_isRow_8 mk_M_isIn ll_M_148 st_M_isIn rfl rfl (nle rfl) (s_M_isIn  hw (fun r3 h2 hw => ?_))
  show aW none m_M_isRow (d + 1) 11 [(0, ar v0), (1, ai v1)] [ai (b2i r3)] h2 0 0 QQ
  exact r_zreturn d_M_isRow_11.1 rfl (b2i_B _) (hQ _ _ hw)
set_option maxRecDepth 100000 in
set_option maxHeartbeats 4000000 in
theorem s_M_numberOf {d : Nat} {v0 : Nat} {v1 : Int32} {v2 : Int32} {h : Hp} {Q : Int32 → Hp → Prop} {QQ : Option AV → Hp → Prop} (hw : w_M_numberOf v0 v1 v2 h Q) (hQ : ∀ r9 h9, Q r9 h9 → QQ (some (ai r9)) h9) : aCall m_M_numberOf d [ar v0, ai v1, ai v2] h 0 0 QQ := by
  refine aCall_in pl_M_numberOf (nle rfl) ?_
  show aW none m_M_numberOf d 0 [(0, ar v0), (1, ai v1), (2, ai v2)] [] h 0 0 QQ
  unfold w_M_numberOf at hw
  refine r_aload_n (j := 0) d_M_numberOf_0 rfl ?_
  obtain ⟨q1, hw⟩ := hw
  refine r_getR d_M_numberOf_1 ok_12 (nle rfl) (nle rfl) rfl lf_M_30 q1 ?_
  refine r_iconst d_M_numberOf_4 kc_3 ?_
  refine r_iload_n (j := 1) d_M_numberOf_5 rfl ?_
  refine r_imul d_M_numberOf_6 ?_
  refine r_iload_n (j := 2) d_M_numberOf_7 rfl ?_
  refine r_iadd d_M_numberOf_8 ?_
  obtain ⟨q2, hw⟩ := hw
  obtain ⟨q3, hw⟩ := hw
  refine r_iald d_M_numberOf_9 q2 q3 ?_
  exact r_ireturn d_M_numberOf_10.1 rfl (hQ _ _ hw)
set_option maxRecDepth 100000 in
set_option maxHeartbeats 4000000 in
theorem s_M_gainOf {d : Nat} {v0 : Nat} {v1 : Int32} {h : Hp} {Q : Int32 → Hp → Prop} {QQ : Option AV → Hp → Prop} (hw : w_M_gainOf v0 v1 h Q) (hQ : ∀ r9 h9, Q r9 h9 → QQ (some (ai r9)) h9) : aCall m_M_gainOf d [ar v0, ai v1] h 0 0 QQ := by
  refine aCall_in pl_M_gainOf (nle rfl) ?_
  show aW none m_M_gainOf d 0 [(0, ar v0), (1, ai v1)] [] h 0 0 QQ
  unfold w_M_gainOf at hw
  refine r_aload_n (j := 0) d_M_gainOf_0 rfl ?_
  obtain ⟨q1, hw⟩ := hw
  refine r_getR d_M_gainOf_1 ok_12 (nle rfl) (nle rfl) rfl lf_M_30 q1 ?_
  refine r_bipush d_M_gainOf_4 kb_24 ?_
  refine r_iload_n (j := 1) d_M_gainOf_6 rfl ?_
  refine r_iadd d_M_gainOf_7 ?_
  obtain ⟨q2, hw⟩ := hw
  obtain ⟨q3, hw⟩ := hw
  refine r_iald d_M_gainOf_8 q2 q3 ?_
  exact r_ireturn d_M_gainOf_9.1 rfl (hQ _ _ hw)
set_option maxRecDepth 100000 in
set_option maxHeartbeats 4000000 in
theorem s_M_needOf {d : Nat} {v0 : Nat} {v1 : Int32} {h : Hp} {Q : Int32 → Hp → Prop} {QQ : Option AV → Hp → Prop} (hw : w_M_needOf v0 v1 h Q) (hQ : ∀ r9 h9, Q r9 h9 → QQ (some (ai r9)) h9) : aCall m_M_needOf d [ar v0, ai v1] h 0 0 QQ := by
  refine aCall_in pl_M_needOf (nle rfl) ?_
  show aW none m_M_needOf d 0 [(0, ar v0), (1, ai v1)] [] h 0 0 QQ
  unfold w_M_needOf at hw
  refine r_aload_n (j := 0) d_M_needOf_0 rfl ?_
  obtain ⟨q1, hw⟩ := hw
  refine r_getR d_M_needOf_1 ok_12 (nle rfl) (nle rfl) rfl lf_M_30 q1 ?_
  refine r_bipush d_M_needOf_4 kb_32 ?_
  refine r_iload_n (j := 1) d_M_needOf_6 rfl ?_
  refine r_iadd d_M_needOf_7 ?_
  obtain ⟨q2, hw⟩ := hw
  obtain ⟨q3, hw⟩ := hw
  refine r_iald d_M_needOf_8 q2 q3 ?_
  exact r_ireturn d_M_needOf_9.1 rfl (hQ _ _ hw)
set_option maxRecDepth 100000 in
set_option maxHeartbeats 4000000 in
theorem s_M_number {d : Nat} (hd : 2 ≤ d) {v0 : Nat} {v1 : Int32} {v2 : Int32} {h : Hp} {Q : Int32 → Hp → Prop} {QQ : Option AV → Hp → Prop} (hw : w_M_number v0 v1 v2 h Q) (hQ : ∀ r9 h9, Q r9 h9 → QQ (some (ai r9)) h9) : aCall m_M_number d [ar v0, ai v1, ai v2] h 0 0 QQ := by
  obtain ⟨d, rfl⟩ : ∃ d9, d = d9 + 1 := ⟨d - 1, by omega⟩
  refine aCall_in pl_M_number (nle rfl) ?_
  show aW none m_M_number (d + 1) 0 [(0, ar v0), (1, ai v1), (2, ai v2)] [] h 0 0 QQ
  unfold w_M_number at hw
  refine r_aload_n (j := 0) d_M_number_0 rfl ?_
  refine r_iload_n (j := 1) d_M_number_1 rfl ?_
  obtain ⟨q3, hw⟩ := hw
  refine r_callV (av := [ai v1]) (rest := []) (ci := 12) d_M_number_2 mk_M_isColumn ll_M_268 im_M_isColumn se_M_isColumn rfl (nle rfl) rfl rfl (nle rfl) q3 (s_M_isColumn (by omega) hw (fun r2 h1 hw => ?_))
  show aW none m_M_number (d + 1) 5 [(0, ar v0), (1, ai v1), (2, ai v2)] [ai (b2i r2)] h1 0 0 QQ
  refine r_if_eq d_M_number_5 (fun w9 => ?_) (fun w9 => ?_)
  · replace hw := hw.1 (b2i_0.mp w9)
    refine r_ldcw d_M_number_25 lc_M_277 ?_
    exact r_ireturn d_M_number_28.1 rfl (hQ _ _ hw)
  · replace hw := hw.2 (fun g9 => w9 (b2i_0.mpr g9))
    refine r_aload_n (j := 0) d_M_number_8 rfl ?_
    refine r_iload_n (j := 2) d_M_number_9 rfl ?_
    obtain ⟨q6, hw⟩ := hw
    refine r_callV (av := [ai v2]) (rest := []) (ci := 12) d_M_number_10 mk_M_isRow ll_M_271 im_M_isRow se_M_isRow rfl (nle rfl) rfl rfl (nle rfl) q6 (s_M_isRow (by omega) hw (fun r5 h4 hw => ?_))
    show aW none m_M_number (d + 1) 13 [(0, ar v0), (1, ai v1), (2, ai v2)] [ai (b2i r5)] h4 0 0 QQ
    refine r_if_eq d_M_number_13 (fun w9 => ?_) (fun w9 => ?_)
    · replace hw := hw.1 (b2i_0.mp w9)
      refine r_ldcw d_M_number_25 lc_M_277 ?_
      exact r_ireturn d_M_number_28.1 rfl (hQ _ _ hw)
    · replace hw := hw.2 (fun g9 => w9 (b2i_0.mpr g9))
      refine r_aload_n (j := 0) d_M_number_16 rfl ?_
      refine r_iload_n (j := 1) d_M_number_17 rfl ?_
      refine r_iload_n (j := 2) d_M_number_18 rfl ?_
      obtain ⟨q9, hw⟩ := hw
      refine r_callV (av := [ai v1, ai v2]) (rest := []) (ci := 12) d_M_number_19 mk_M_numberOf ll_M_274 im_M_numberOf se_M_numberOf rfl (nle rfl) rfl rfl (nle rfl) q9 (s_M_numberOf  hw (fun r8 h7 hw => ?_))
      show aW none m_M_number (d + 1) 22 [(0, ar v0), (1, ai v1), (2, ai v2)] [ai r8] h7 0 0 QQ
      refine r_goto d_M_number_22 ?_
      exact r_ireturn d_M_number_28.1 rfl (hQ _ _ hw)
set_option maxRecDepth 100000 in
set_option maxHeartbeats 4000000 in
theorem s_M_gain {d : Nat} (hd : 2 ≤ d) {v0 : Nat} {v1 : Int32} {h : Hp} {Q : Int32 → Hp → Prop} {QQ : Option AV → Hp → Prop} (hw : w_M_gain v0 v1 h Q) (hQ : ∀ r9 h9, Q r9 h9 → QQ (some (ai r9)) h9) : aCall m_M_gain d [ar v0, ai v1] h 0 0 QQ := by
  obtain ⟨d, rfl⟩ : ∃ d9, d = d9 + 1 := ⟨d - 1, by omega⟩
  refine aCall_in pl_M_gain (nle rfl) ?_
  show aW none m_M_gain (d + 1) 0 [(0, ar v0), (1, ai v1)] [] h 0 0 QQ
  unfold w_M_gain at hw
  refine r_aload_n (j := 0) d_M_gain_0 rfl ?_
  refine r_iload_n (j := 1) d_M_gain_1 rfl ?_
  obtain ⟨q3, hw⟩ := hw
  refine r_callV (av := [ai v1]) (rest := []) (ci := 12) d_M_gain_2 mk_M_isColumn ll_M_268 im_M_isColumn se_M_isColumn rfl (nle rfl) rfl rfl (nle rfl) q3 (s_M_isColumn (by omega) hw (fun r2 h1 hw => ?_))
  show aW none m_M_gain (d + 1) 5 [(0, ar v0), (1, ai v1)] [ai (b2i r2)] h1 0 0 QQ
  refine r_if_eq d_M_gain_5 (fun w9 => ?_) (fun w9 => ?_)
  · replace hw := hw.1 (b2i_0.mp w9)
    refine r_ldcw d_M_gain_16 lc_M_277 ?_
    exact r_ireturn d_M_gain_19.1 rfl (hQ _ _ hw)
  · replace hw := hw.2 (fun g9 => w9 (b2i_0.mpr g9))
    refine r_aload_n (j := 0) d_M_gain_8 rfl ?_
    refine r_iload_n (j := 1) d_M_gain_9 rfl ?_
    obtain ⟨q6, hw⟩ := hw
    refine r_callV (av := [ai v1]) (rest := []) (ci := 12) d_M_gain_10 mk_M_gainOf ll_M_278 im_M_gainOf se_M_gainOf rfl (nle rfl) rfl rfl (nle rfl) q6 (s_M_gainOf  hw (fun r5 h4 hw => ?_))
    show aW none m_M_gain (d + 1) 13 [(0, ar v0), (1, ai v1)] [ai r5] h4 0 0 QQ
    refine r_goto d_M_gain_13 ?_
    exact r_ireturn d_M_gain_19.1 rfl (hQ _ _ hw)
set_option maxRecDepth 100000 in
set_option maxHeartbeats 4000000 in
theorem s_M_need {d : Nat} (hd : 2 ≤ d) {v0 : Nat} {v1 : Int32} {h : Hp} {Q : Int32 → Hp → Prop} {QQ : Option AV → Hp → Prop} (hw : w_M_need v0 v1 h Q) (hQ : ∀ r9 h9, Q r9 h9 → QQ (some (ai r9)) h9) : aCall m_M_need d [ar v0, ai v1] h 0 0 QQ := by
  obtain ⟨d, rfl⟩ : ∃ d9, d = d9 + 1 := ⟨d - 1, by omega⟩
  refine aCall_in pl_M_need (nle rfl) ?_
  show aW none m_M_need (d + 1) 0 [(0, ar v0), (1, ai v1)] [] h 0 0 QQ
  unfold w_M_need at hw
  refine r_aload_n (j := 0) d_M_need_0 rfl ?_
  refine r_iload_n (j := 1) d_M_need_1 rfl ?_
  obtain ⟨q3, hw⟩ := hw
  refine r_callV (av := [ai v1]) (rest := []) (ci := 12) d_M_need_2 mk_M_isRow ll_M_271 im_M_isRow se_M_isRow rfl (nle rfl) rfl rfl (nle rfl) q3 (s_M_isRow (by omega) hw (fun r2 h1 hw => ?_))
  show aW none m_M_need (d + 1) 5 [(0, ar v0), (1, ai v1)] [ai (b2i r2)] h1 0 0 QQ
  refine r_if_eq d_M_need_5 (fun w9 => ?_) (fun w9 => ?_)
  · replace hw := hw.1 (b2i_0.mp w9)
    refine r_ldcw d_M_need_16 lc_M_277 ?_
    exact r_ireturn d_M_need_19.1 rfl (hQ _ _ hw)
  · replace hw := hw.2 (fun g9 => w9 (b2i_0.mpr g9))
    refine r_aload_n (j := 0) d_M_need_8 rfl ?_
    refine r_iload_n (j := 1) d_M_need_9 rfl ?_
    obtain ⟨q6, hw⟩ := hw
    refine r_callV (av := [ai v1]) (rest := []) (ci := 12) d_M_need_10 mk_M_needOf ll_M_281 im_M_needOf se_M_needOf rfl (nle rfl) rfl rfl (nle rfl) q6 (s_M_needOf  hw (fun r5 h4 hw => ?_))
    show aW none m_M_need (d + 1) 13 [(0, ar v0), (1, ai v1)] [ai r5] h4 0 0 QQ
    refine r_goto d_M_need_13 ?_
    exact r_ireturn d_M_need_19.1 rfl (hQ _ _ hw)
set_option maxRecDepth 100000 in
set_option maxHeartbeats 4000000 in
theorem s_M_act_L52 {d : Nat} {Q : Hp → Prop} {QQ : Option AV → Hp → Prop} (hQ : ∀ h9, Q h9 → QQ none h9) {v0 : Nat} : ∀ (n : Nat) (v1 : Int32) (h : Hp), w_M_act_L52 Q  v0 n v1 h → aW none m_M_act d 52 [(0, ar v0), (1, ai v1)] [] h 0 0 QQ := by
  intro n
  induction n with
  | zero => intro v1 h hw; exact hw.elim
  | succ n ih =>
    intro v1 h hw
    unfold w_M_act_L52 at hw
    refine r_iload_n (j := 1) d_M_act_52 rfl ?_
    refine r_bipush d_M_act_53 kb_44 ?_
    refine r_icmp_ge d_M_act_55 (fun w9 => ?_) (fun w9 => ?_)
    · replace hw := hw.1 w9
      refine r_aload_n (j := 0) d_M_act_84 rfl ?_
      refine r_dup d_M_act_85 rfl ?_
      obtain ⟨q2, hw⟩ := hw
      refine r_getI d_M_act_86 ok_12 (nle rfl) (nle rfl) rfl lf_M_250 q2 ?_
      refine r_iconst d_M_act_89 kc_1 ?_
      refine r_iadd d_M_act_90 ?_
      refine r_putI d_M_act_91 ok_12 (nle rfl) (nle rfl) rfl lf_M_250 rfl q2 ?_
      refine r_aload_n (j := 0) d_M_act_94 rfl ?_
      refine r_iconst d_M_act_95 kc_0 ?_
      refine r_putI d_M_act_96 ok_12 (nle rfl) (nle rfl) rfl lf_M_253 rfl q2 ?_
      refine r_aload_n (j := 0) d_M_act_99 rfl ?_
      refine r_iconst d_M_act_100 kc_0 ?_
      refine r_putZ d_M_act_101 ok_12 (nle rfl) (nle rfl) rfl lf_M_259 rfl q2 (Or.inl rfl) ?_
      exact r_return d_M_act_104.1 rfl (hQ _ hw)
    · replace hw := hw.2 w9
      refine r_aload_n (j := 0) d_M_act_58 rfl ?_
      obtain ⟨q3, hw⟩ := hw
      refine r_getR d_M_act_59 ok_12 (nle rfl) (nle rfl) rfl lf_M_33 q3 ?_
      refine r_bipush d_M_act_62 kb_44 ?_
      refine r_aload_n (j := 0) d_M_act_64 rfl ?_
      refine r_getI d_M_act_65 ok_12 (nle rfl) (nle rfl) rfl lf_M_250 q3 ?_
      refine r_imul d_M_act_68 ?_
      refine r_iload_n (j := 1) d_M_act_69 rfl ?_
      refine r_iadd d_M_act_70 ?_
      refine r_aload_n (j := 0) d_M_act_71 rfl ?_
      refine r_getR d_M_act_72 ok_12 (nle rfl) (nle rfl) rfl lf_M_30 q3 ?_
      refine r_iload_n (j := 1) d_M_act_75 rfl ?_
      obtain ⟨q4, hw⟩ := hw
      obtain ⟨q5, hw⟩ := hw
      refine r_iald d_M_act_76 q4 q5 ?_
      obtain ⟨q6, hw⟩ := hw
      obtain ⟨q7, hw⟩ := hw
      refine r_iast d_M_act_77 q6 q7 ?_
      refine r_iinc (j := 1) (ls2 := [(1, ai (v1 + (1 : Int32))), (0, ar v0)]) d_M_act_78 rfl (congrArg (HAdd.hAdd v1) kc_1) (nle rfl) rfl ?_
      refine r_goto d_M_act_81 ?_
      refine r_pick (ls2 := [(0, ar v0), (1, ai (v1 + (1 : Int32)))]) [1, 0] rfl ?_
      exact ih _ _ hw
set_option maxRecDepth 100000 in
set_option maxHeartbeats 4000000 in
theorem s_M_act_L12 {d : Nat} {Q : Hp → Prop} {QQ : Option AV → Hp → Prop} (hQ : ∀ h9, Q h9 → QQ none h9) {v0 : Nat} : ∀ (n : Nat) (v1 : Int32) (h : Hp), w_M_act_L12 Q  v0 n v1 h → aW none m_M_act d 12 [(0, ar v0), (1, ai v1)] [] h 0 0 QQ := by
  intro n
  induction n with
  | zero => intro v1 h hw; exact hw.elim
  | succ n ih =>
    intro v1 h hw
    unfold w_M_act_L12 at hw
    refine r_iload_n (j := 1) d_M_act_12 rfl ?_
    refine r_sipush d_M_act_13 ks_880 ?_
    refine r_icmp_ge d_M_act_16 (fun w9 => ?_) (fun w9 => ?_)
    · replace hw := hw.1 w9
      refine r_aload_n (j := 0) d_M_act_40 rfl ?_
      refine r_dup d_M_act_41 rfl ?_
      obtain ⟨q9, hw⟩ := hw
      refine r_getI d_M_act_42 ok_12 (nle rfl) (nle rfl) rfl lf_M_250 q9 ?_
      refine r_iconst d_M_act_45 kc_1 ?_
      refine r_isub d_M_act_46 ?_
      refine r_putI d_M_act_47 ok_12 (nle rfl) (nle rfl) rfl lf_M_250 rfl q9 ?_
      refine r_iconst d_M_act_50 kc_0 ?_
      refine r_istore_n (ls2 := [(1, ai (0 : Int32)), (0, ar v0)]) d_M_act_51 (nle rfl) rfl ?_
      obtain ⟨n10, hw⟩ := hw
      refine r_pick (ls2 := [(0, ar v0), (1, ai (0 : Int32))]) [1, 0] rfl ?_
      exact s_M_act_L52 hQ  n10 _ _ hw
    · replace hw := hw.2 w9
      refine r_aload_n (j := 0) d_M_act_19 rfl ?_
      obtain ⟨q11, hw⟩ := hw
      refine r_getR d_M_act_20 ok_12 (nle rfl) (nle rfl) rfl lf_M_33 q11 ?_
      refine r_iload_n (j := 1) d_M_act_23 rfl ?_
      refine r_bipush d_M_act_24 kb_44 ?_
      refine r_isub d_M_act_26 ?_
      refine r_aload_n (j := 0) d_M_act_27 rfl ?_
      refine r_getR d_M_act_28 ok_12 (nle rfl) (nle rfl) rfl lf_M_33 q11 ?_
      refine r_iload_n (j := 1) d_M_act_31 rfl ?_
      obtain ⟨q12, hw⟩ := hw
      obtain ⟨q13, hw⟩ := hw
      refine r_iald d_M_act_32 q12 q13 ?_
      obtain ⟨q14, hw⟩ := hw
      refine r_iast d_M_act_33 q12 q14 ?_
      refine r_iinc (j := 1) (ls2 := [(1, ai (v1 + (1 : Int32))), (0, ar v0)]) d_M_act_34 rfl (congrArg (HAdd.hAdd v1) kc_1) (nle rfl) rfl ?_
      refine r_goto d_M_act_37 ?_
      refine r_pick (ls2 := [(0, ar v0), (1, ai (v1 + (1 : Int32)))]) [1, 0] rfl ?_
      exact ih _ _ hw
set_option maxRecDepth 100000 in
set_option maxHeartbeats 4000000 in
theorem s_M_act {d : Nat} {v0 : Nat} {h : Hp} {Q : Hp → Prop} {QQ : Option AV → Hp → Prop} (hw : w_M_act v0 h Q) (hQ : ∀ h9, Q h9 → QQ none h9) : aCall m_M_act d [ar v0] h 0 0 QQ := by
  refine aCall_in pl_M_act (nle rfl) ?_
  show aW none m_M_act d 0 [(0, ar v0)] [] h 0 0 QQ
  unfold w_M_act at hw
  refine r_aload_n (j := 0) d_M_act_0 rfl ?_
  obtain ⟨q1, hw⟩ := hw
  refine r_getI d_M_act_1 ok_12 (nle rfl) (nle rfl) rfl lf_M_250 q1 ?_
  refine r_bipush d_M_act_4 kb_20 ?_
  refine r_icmp_ne d_M_act_6 (fun w9 => ?_) (fun w9 => ?_)
  · replace hw := hw.2 w9
    refine r_iconst d_M_act_50 kc_0 ?_
    refine r_istore_n (ls2 := [(1, ai (0 : Int32)), (0, ar v0)]) d_M_act_51 (nle rfl) rfl ?_
    obtain ⟨n8, hw⟩ := hw
    refine r_pick (ls2 := [(0, ar v0), (1, ai (0 : Int32))]) [1, 0] rfl ?_
    exact s_M_act_L52 hQ  n8 _ _ hw
  · replace hw := hw.1 w9
    refine r_bipush d_M_act_9 kb_44 ?_
    refine r_istore_n (ls2 := [(1, ai (44 : Int32)), (0, ar v0)]) d_M_act_11 (nle rfl) rfl ?_
    obtain ⟨n15, hw⟩ := hw
    refine r_pick (ls2 := [(0, ar v0), (1, ai (44 : Int32))]) [1, 0] rfl ?_
    exact s_M_act_L12 hQ  n15 _ _ hw
set_option maxRecDepth 100000 in
set_option maxHeartbeats 4000000 in
theorem s_M_exchanges_L2 {d : Nat} {Q : Hp → Prop} {QQ : Option AV → Hp → Prop} (hQ : ∀ h9, Q h9 → QQ none h9) {v0 : Nat} {v1 : Int32} : ∀ (n : Nat) (v2 : Int32) (h : Hp), w_M_exchanges_L2 Q  v0 v1 n v2 h → aW none m_M_exchanges d 2 [(0, ar v0), (1, ai v1), (2, ai v2)] [] h 0 0 QQ := by
  intro n
  induction n with
  | zero => intro v2 h hw; exact hw.elim
  | succ n ih =>
    intro v2 h hw
    unfold w_M_exchanges_L2 at hw
    refine r_iload_n (j := 2) d_M_exchanges_2 rfl ?_
    refine r_bipush d_M_exchanges_3 kb_44 ?_
    refine r_icmp_ge d_M_exchanges_5 (fun w9 => ?_) (fun w9 => ?_)
    · replace hw := hw.1 w9
      refine r_aload_n (j := 0) d_M_exchanges_50 rfl ?_
      refine r_iconst d_M_exchanges_51 kc_0 ?_
      obtain ⟨q1, hw⟩ := hw
      refine r_putZ d_M_exchanges_52 ok_12 (nle rfl) (nle rfl) rfl lf_M_259 rfl q1 (Or.inl rfl) ?_
      exact r_return d_M_exchanges_55.1 rfl (hQ _ hw)
    · replace hw := hw.2 w9
      refine r_aload_n (j := 0) d_M_exchanges_8 rfl ?_
      obtain ⟨q2, hw⟩ := hw
      refine r_getR d_M_exchanges_9 ok_12 (nle rfl) (nle rfl) rfl lf_M_33 q2 ?_
      refine r_bipush d_M_exchanges_12 kb_44 ?_
      refine r_iload_n (j := 1) d_M_exchanges_14 rfl ?_
      refine r_imul d_M_exchanges_15 ?_
      refine r_iload_n (j := 2) d_M_exchanges_16 rfl ?_
      refine r_iadd d_M_exchanges_17 ?_
      obtain ⟨q3, hw⟩ := hw
      obtain ⟨q4, hw⟩ := hw
      refine r_iald d_M_exchanges_18 q3 q4 ?_
      refine r_istore_n (ls2 := [(3, ai (gI h (gR h v0 23) (ix (((44 : Int32) * v1) + v2)))), (0, ar v0), (1, ai v1), (2, ai v2)]) d_M_exchanges_19 (nle rfl) rfl ?_
      refine r_aload_n (j := 1) d_M_exchanges_20 rfl ?_
      refine r_getR d_M_exchanges_21 ok_12 (nle rfl) (nle rfl) rfl lf_M_33 q2 ?_
      refine r_bipush d_M_exchanges_24 kb_44 ?_
      refine r_iload_n (j := 2) d_M_exchanges_26 rfl ?_
      refine r_imul d_M_exchanges_27 ?_
      refine r_iload_n (j := 3) d_M_exchanges_28 rfl ?_
      refine r_iadd d_M_exchanges_29 ?_
      refine r_aload_n (j := 1) d_M_exchanges_30 rfl ?_
      refine r_getR d_M_exchanges_31 ok_12 (nle rfl) (nle rfl) rfl lf_M_30 q2 ?_
      refine r_iload_n (j := 3) d_M_exchanges_34 rfl ?_
      obtain ⟨q5, hw⟩ := hw
      obtain ⟨q6, hw⟩ := hw
      refine r_iald d_M_exchanges_35 q5 q6 ?_
      refine r_iast d_M_exchanges_36 q3 q4 ?_
      refine r_aload_n (j := 1) d_M_exchanges_37 rfl ?_
      refine r_getR d_M_exchanges_38 ok_12 (nle rfl) (nle rfl) rfl lf_M_30 q2 ?_
      refine r_iload_n (j := 3) d_M_exchanges_41 rfl ?_
      refine r_iload_n (j := 0) d_M_exchanges_42 rfl ?_
      refine r_iast d_M_exchanges_43 q5 q6 ?_
      refine r_iinc (j := 3) (ls2 := [(2, ai (v2 + (1 : Int32))), (3, ai (gI h (gR h v0 23) (ix (((44 : Int32) * v1) + v2)))), (0, ar v0), (1, ai v1)]) d_M_exchanges_44 rfl (congrArg (HAdd.hAdd v2) kc_1) (nle rfl) rfl ?_
      refine r_goto d_M_exchanges_47 ?_
      refine r_pick (ls2 := [(0, ar v0), (1, ai v1), (2, ai (v2 + (1 : Int32)))]) [2, 3, 0] rfl ?_
      exact ih _ _ hw
set_option maxRecDepth 100000 in
set_option maxHeartbeats 4000000 in
theorem s_M_exchanges {d : Nat} {v0 : Nat} {v1 : Int32} {h : Hp} {Q : Hp → Prop} {QQ : Option AV → Hp → Prop} (hw : w_M_exchanges v0 v1 h Q) (hQ : ∀ h9, Q h9 → QQ none h9) : aCall m_M_exchanges d [ar v0, ai v1] h 0 0 QQ := by
  refine aCall_in pl_M_exchanges (nle rfl) ?_
  show aW none m_M_exchanges d 0 [(0, ar v0), (1, ai v1)] [] h 0 0 QQ
  unfold w_M_exchanges at hw
  refine r_iconst d_M_exchanges_0 kc_0 ?_
  refine r_istore_n (ls2 := [(2, ai (0 : Int32)), (0, ar v0), (1, ai v1)]) d_M_exchanges_1 (nle rfl) rfl ?_
  obtain ⟨n7, hw⟩ := hw
  refine r_pick (ls2 := [(0, ar v0), (1, ai v1), (2, ai (0 : Int32))]) [1, 2, 0] rfl ?_
  exact s_M_exchanges_L2 hQ  n7 _ _ hw
set_option maxRecDepth 100000 in
set_option maxHeartbeats 4000000 in
theorem s_M_undo {d : Nat} (hd : 1 ≤ d) {v0 : Nat} {h : Hp} {Q : Bool → Hp → Prop} {QQ : Option AV → Hp → Prop} (hw : w_M_undo v0 h Q) (hQ : ∀ r9 h9, Q r9 h9 → QQ (some (ai (b2i r9))) h9) : aCall m_M_undo d [ar v0] h 0 0 QQ := by
  obtain ⟨d, rfl⟩ : ∃ d9, d = d9 + 1 := ⟨d - 1, by omega⟩
  refine aCall_in pl_M_undo (nle rfl) ?_
  show aW none m_M_undo (d + 1) 0 [(0, ar v0)] [] h 0 0 QQ
  unfold w_M_undo at hw
  refine r_aload_n (j := 0) d_M_undo_0 rfl ?_
  obtain ⟨q1, hw⟩ := hw
  refine r_getI d_M_undo_1 ok_12 (nle rfl) (nle rfl) rfl lf_M_250 q1 ?_
  refine r_if_ne d_M_undo_4 (fun w9 => ?_) (fun w9 => ?_)
  · replace hw := hw.2 w9
    refine r_aload_n (j := 0) d_M_undo_9 rfl ?_
    refine r_dup d_M_undo_10 rfl ?_
    refine r_getI d_M_undo_11 ok_12 (nle rfl) (nle rfl) rfl lf_M_250 q1 ?_
    refine r_iconst d_M_undo_14 kc_1 ?_
    refine r_isub d_M_undo_15 ?_
    refine r_putI d_M_undo_16 ok_12 (nle rfl) (nle rfl) rfl lf_M_250 rfl q1 ?_
    refine r_aload_n (j := 0) d_M_undo_19 rfl ?_
    refine r_dup d_M_undo_20 rfl ?_
    refine r_getI d_M_undo_21 ok_12 (nle rfl) (nle rfl) rfl lf_M_253 q1 ?_
    refine r_iconst d_M_undo_24 kc_1 ?_
    refine r_iadd d_M_undo_25 ?_
    refine r_putI d_M_undo_26 ok_12 (nle rfl) (nle rfl) rfl lf_M_253 rfl q1 ?_
    refine r_aload_n (j := 0) d_M_undo_29 rfl ?_
    refine r_aload_n (j := 0) d_M_undo_30 rfl ?_
    refine r_getI d_M_undo_31 ok_12 (nle rfl) (nle rfl) rfl lf_M_250 q1 ?_
    refine r_callV (av := [ai (gI (sI (sI h v0 24 ((gI h v0 24) - (1 : Int32))) v0 25 ((gI (sI h v0 24 ((gI h v0 24) - (1 : Int32))) v0 25) + (1 : Int32))) v0 24)]) (rest := []) (ci := 12) d_M_undo_34 mk_M_exchanges ll_M_284 im_M_exchanges se_M_exchanges rfl (nle rfl) rfl rfl (nle rfl) q1 (s_M_exchanges  hw (fun h2 hw => ?_))
    show aW none m_M_undo (d + 1) 37 [(0, ar v0)] [] h2 0 0 QQ
    refine r_iconst d_M_undo_37 kc_1 ?_
    exact r_zreturn d_M_undo_38.1 rfl (Or.inr rfl) (hQ _ _ hw)
  · replace hw := hw.1 w9
    refine r_iconst d_M_undo_7 kc_0 ?_
    exact r_zreturn d_M_undo_8.1 rfl (Or.inl rfl) (hQ _ _ hw)
set_option maxRecDepth 100000 in
set_option maxHeartbeats 4000000 in
theorem s_M_redo {d : Nat} (hd : 1 ≤ d) {v0 : Nat} {h : Hp} {Q : Bool → Hp → Prop} {QQ : Option AV → Hp → Prop} (hw : w_M_redo v0 h Q) (hQ : ∀ r9 h9, Q r9 h9 → QQ (some (ai (b2i r9))) h9) : aCall m_M_redo d [ar v0] h 0 0 QQ := by
  obtain ⟨d, rfl⟩ : ∃ d9, d = d9 + 1 := ⟨d - 1, by omega⟩
  refine aCall_in pl_M_redo (nle rfl) ?_
  show aW none m_M_redo (d + 1) 0 [(0, ar v0)] [] h 0 0 QQ
  unfold w_M_redo at hw
  refine r_aload_n (j := 0) d_M_redo_0 rfl ?_
  obtain ⟨q1, hw⟩ := hw
  refine r_getI d_M_redo_1 ok_12 (nle rfl) (nle rfl) rfl lf_M_253 q1 ?_
  refine r_if_ne d_M_redo_4 (fun w9 => ?_) (fun w9 => ?_)
  · replace hw := hw.2 w9
    refine r_aload_n (j := 0) d_M_redo_9 rfl ?_
    refine r_dup d_M_redo_10 rfl ?_
    refine r_getI d_M_redo_11 ok_12 (nle rfl) (nle rfl) rfl lf_M_253 q1 ?_
    refine r_iconst d_M_redo_14 kc_1 ?_
    refine r_isub d_M_redo_15 ?_
    refine r_putI d_M_redo_16 ok_12 (nle rfl) (nle rfl) rfl lf_M_253 rfl q1 ?_
    refine r_aload_n (j := 0) d_M_redo_19 rfl ?_
    refine r_aload_n (j := 0) d_M_redo_20 rfl ?_
    refine r_getI d_M_redo_21 ok_12 (nle rfl) (nle rfl) rfl lf_M_250 q1 ?_
    refine r_callV (av := [ai (gI (sI h v0 25 ((gI h v0 25) - (1 : Int32))) v0 24)]) (rest := []) (ci := 12) d_M_redo_24 mk_M_exchanges ll_M_284 im_M_exchanges se_M_exchanges rfl (nle rfl) rfl rfl (nle rfl) q1 (s_M_exchanges  hw (fun h2 hw => ?_))
    show aW none m_M_redo (d + 1) 27 [(0, ar v0)] [] h2 0 0 QQ
    refine r_aload_n (j := 0) d_M_redo_27 rfl ?_
    refine r_dup d_M_redo_28 rfl ?_
    obtain ⟨q3, hw⟩ := hw
    refine r_getI d_M_redo_29 ok_12 (nle rfl) (nle rfl) rfl lf_M_250 q3 ?_
    refine r_iconst d_M_redo_32 kc_1 ?_
    refine r_iadd d_M_redo_33 ?_
    refine r_putI d_M_redo_34 ok_12 (nle rfl) (nle rfl) rfl lf_M_250 rfl q3 ?_
    refine r_iconst d_M_redo_37 kc_1 ?_
    exact r_zreturn d_M_redo_38.1 rfl (Or.inr rfl) (hQ _ _ hw)
  · replace hw := hw.1 w9
    refine r_iconst d_M_redo_7 kc_0 ?_
    exact r_zreturn d_M_redo_8.1 rfl (Or.inl rfl) (hQ _ _ hw)
set_option maxRecDepth 100000 in
set_option maxHeartbeats 4000000 in
theorem s_M_becomes {d : Nat} (hd : 1 ≤ d) {v0 : Nat} {v1 : Int32} {v2 : Int32} {h : Hp} {Q : Int32 → Hp → Prop} {QQ : Option AV → Hp → Prop} (hw : w_M_becomes v0 v1 v2 h Q) (hQ : ∀ r9 h9, Q r9 h9 → QQ (some (ai r9)) h9) : aCall m_M_becomes d [ar v0, ai v1, ai v2] h 0 0 QQ := by
  obtain ⟨d, rfl⟩ : ∃ d9, d = d9 + 1 := ⟨d - 1, by omega⟩
  refine aCall_in pl_M_becomes (nle rfl) ?_
  show aW none m_M_becomes (d + 1) 0 [(0, ar v0), (1, ai v1), (2, ai v2)] [] h 0 0 QQ
  unfold w_M_becomes at hw
  refine r_aload_n (j := 0) d_M_becomes_0 rfl ?_
  obtain ⟨q1, hw⟩ := hw
  refine r_getR d_M_becomes_1 ok_12 (nle rfl) (nle rfl) rfl lf_M_30 q1 ?_
  refine r_iload_n (j := 1) d_M_becomes_4 rfl ?_
  obtain ⟨q2, hw⟩ := hw
  obtain ⟨q3, hw⟩ := hw
  refine r_iald d_M_becomes_5 q2 q3 ?_
  refine r_istore_n (ls2 := [(3, ai (gI h (gR h v0 22) (ix v1))), (0, ar v0), (1, ai v1), (2, ai v2)]) d_M_becomes_6 (nle rfl) rfl ?_
  refine r_iload_n (j := 0) d_M_becomes_7 rfl ?_
  refine r_iload_n (j := 3) d_M_becomes_8 rfl ?_
  refine r_icmp_ne d_M_becomes_9 (fun w9 => ?_) (fun w9 => ?_)
  · replace hw := hw.2 w9
    refine r_aload_n (j := 1) d_M_becomes_16 rfl ?_
    refine r_callV (av := []) (rest := []) (ci := 12) d_M_becomes_17 mk_M_act ll_M_287 im_M_act se_M_act rfl (nle rfl) rfl rfl (nle rfl) q1 (s_M_act  hw (fun h4 hw => ?_))
    show aW none m_M_becomes (d + 1) 20 [(3, ai (gI h (gR h v0 22) (ix v1))), (0, ar v0), (1, ai v1), (2, ai v2)] [] h4 0 0 QQ
    refine r_aload_n (j := 1) d_M_becomes_20 rfl ?_
    obtain ⟨q5, hw⟩ := hw
    refine r_getR d_M_becomes_21 ok_12 (nle rfl) (nle rfl) rfl lf_M_30 q5 ?_
    refine r_iload_n (j := 2) d_M_becomes_24 rfl ?_
    refine r_iload_n (j := 3) d_M_becomes_25 rfl ?_
    obtain ⟨q6, hw⟩ := hw
    obtain ⟨q7, hw⟩ := hw
    refine r_iast d_M_becomes_26 q6 q7 ?_
    refine r_iload_n (j := 0) d_M_becomes_27 rfl ?_
    exact r_ireturn d_M_becomes_28.1 rfl (hQ _ _ hw)
  · replace hw := hw.1 w9
    refine r_ldcw d_M_becomes_12 lc_M_277 ?_
    exact r_ireturn d_M_becomes_15.1 rfl (hQ _ _ hw)
set_option maxRecDepth 100000 in
set_option maxHeartbeats 4000000 in
theorem s_M_change {d : Nat} (hd : 2 ≤ d) {v0 : Nat} {v1 : Int32} {v2 : Int32} {v3 : Int32} {h : Hp} {Q : Int32 → Hp → Prop} {QQ : Option AV → Hp → Prop} (hw : w_M_change v0 v1 v2 v3 h Q) (hQ : ∀ r9 h9, Q r9 h9 → QQ (some (ai r9)) h9) : aCall m_M_change d [ar v0, ai v1, ai v2, ai v3] h 0 0 QQ := by
  obtain ⟨d, rfl⟩ : ∃ d9, d = d9 + 1 := ⟨d - 1, by omega⟩
  refine aCall_in pl_M_change (nle rfl) ?_
  show aW none m_M_change (d + 1) 0 [(0, ar v0), (1, ai v1), (2, ai v2), (3, ai v3)] [] h 0 0 QQ
  unfold w_M_change at hw
  refine r_aload_n (j := 0) d_M_change_0 rfl ?_
  refine r_iload_n (j := 1) d_M_change_1 rfl ?_
  obtain ⟨q3, hw⟩ := hw
  refine r_callV (av := [ai v1]) (rest := []) (ci := 12) d_M_change_2 mk_M_isColumn ll_M_268 im_M_isColumn se_M_isColumn rfl (nle rfl) rfl rfl (nle rfl) q3 (s_M_isColumn (by omega) hw (fun r2 h1 hw => ?_))
  show aW none m_M_change (d + 1) 5 [(0, ar v0), (1, ai v1), (2, ai v2), (3, ai v3)] [ai (b2i r2)] h1 0 0 QQ
  refine r_if_eq d_M_change_5 (fun w9 => ?_) (fun w9 => ?_)
  · replace hw := hw.1 (b2i_0.mp w9)
    refine r_ldcw d_M_change_39 lc_M_277 ?_
    exact r_ireturn d_M_change_42.1 rfl (hQ _ _ hw)
  · replace hw := hw.2 (fun g9 => w9 (b2i_0.mpr g9))
    refine r_aload_n (j := 0) d_M_change_8 rfl ?_
    refine r_iload_n (j := 2) d_M_change_9 rfl ?_
    obtain ⟨q6, hw⟩ := hw
    refine r_callV (av := [ai v2]) (rest := []) (ci := 12) d_M_change_10 mk_M_isRow ll_M_271 im_M_isRow se_M_isRow rfl (nle rfl) rfl rfl (nle rfl) q6 (s_M_isRow (by omega) hw (fun r5 h4 hw => ?_))
    show aW none m_M_change (d + 1) 13 [(0, ar v0), (1, ai v1), (2, ai v2), (3, ai v3)] [ai (b2i r5)] h4 0 0 QQ
    refine r_if_eq d_M_change_13 (fun w9 => ?_) (fun w9 => ?_)
    · replace hw := hw.1 (b2i_0.mp w9)
      refine r_ldcw d_M_change_39 lc_M_277 ?_
      exact r_ireturn d_M_change_42.1 rfl (hQ _ _ hw)
    · replace hw := hw.2 (fun g9 => w9 (b2i_0.mpr g9))
      refine r_iload_n (j := 3) d_M_change_16 rfl ?_
      refine r_bipush d_M_change_17 kb_m5 ?_
      refine r_iconst d_M_change_19 kc_5 ?_
      refine r_callS (av := [ai v3, ai (-5 : Int32), ai (5 : Int32)]) (rest := []) d_M_change_20 mk_M_isIn ll_M_148 st_M_isIn rfl rfl (nle rfl) (s_M_isIn  hw (fun r8 h7 hw => ?_))
      show aW none m_M_change (d + 1) 23 [(0, ar v0), (1, ai v1), (2, ai v2), (3, ai v3)] [ai (b2i r8)] h7 0 0 QQ
      refine r_if_eq d_M_change_23 (fun w9 => ?_) (fun w9 => ?_)
      · replace hw := hw.1 (b2i_0.mp w9)
        refine r_ldcw d_M_change_39 lc_M_277 ?_
        exact r_ireturn d_M_change_42.1 rfl (hQ _ _ hw)
      · replace hw := hw.2 (fun g9 => w9 (b2i_0.mpr g9))
        refine r_aload_n (j := 0) d_M_change_26 rfl ?_
        refine r_iconst d_M_change_27 kc_3 ?_
        refine r_iload_n (j := 1) d_M_change_28 rfl ?_
        refine r_imul d_M_change_29 ?_
        refine r_iload_n (j := 2) d_M_change_30 rfl ?_
        refine r_iadd d_M_change_31 ?_
        refine r_iload_n (j := 3) d_M_change_32 rfl ?_
        obtain ⟨q11, hw⟩ := hw
        refine r_callV (av := [ai (((3 : Int32) * v1) + v2), ai v3]) (rest := []) (ci := 12) d_M_change_33 mk_M_becomes ll_M_290 im_M_becomes se_M_becomes rfl (nle rfl) rfl rfl (nle rfl) q11 (s_M_becomes (by omega) hw (fun r10 h9 hw => ?_))
        show aW none m_M_change (d + 1) 36 [(0, ar v0), (1, ai v1), (2, ai v2), (3, ai v3)] [ai r10] h9 0 0 QQ
        refine r_goto d_M_change_36 ?_
        exact r_ireturn d_M_change_42.1 rfl (hQ _ _ hw)
set_option maxRecDepth 100000 in
set_option maxHeartbeats 4000000 in
theorem s_M_worth {d : Nat} (hd : 2 ≤ d) {v0 : Nat} {v1 : Int32} {v2 : Int32} {h : Hp} {Q : Int32 → Hp → Prop} {QQ : Option AV → Hp → Prop} (hw : w_M_worth v0 v1 v2 h Q) (hQ : ∀ r9 h9, Q r9 h9 → QQ (some (ai r9)) h9) : aCall m_M_worth d [ar v0, ai v1, ai v2] h 0 0 QQ := by
  obtain ⟨d, rfl⟩ : ∃ d9, d = d9 + 1 := ⟨d - 1, by omega⟩
  refine aCall_in pl_M_worth (nle rfl) ?_
  show aW none m_M_worth (d + 1) 0 [(0, ar v0), (1, ai v1), (2, ai v2)] [] h 0 0 QQ
  unfold w_M_worth at hw
  refine r_aload_n (j := 0) d_M_worth_0 rfl ?_
  refine r_iload_n (j := 1) d_M_worth_1 rfl ?_
  obtain ⟨q3, hw⟩ := hw
  refine r_callV (av := [ai v1]) (rest := []) (ci := 12) d_M_worth_2 mk_M_isColumn ll_M_268 im_M_isColumn se_M_isColumn rfl (nle rfl) rfl rfl (nle rfl) q3 (s_M_isColumn (by omega) hw (fun r2 h1 hw => ?_))
  show aW none m_M_worth (d + 1) 5 [(0, ar v0), (1, ai v1), (2, ai v2)] [ai (b2i r2)] h1 0 0 QQ
  refine r_if_eq d_M_worth_5 (fun w9 => ?_) (fun w9 => ?_)
  · replace hw := hw.1 (b2i_0.mp w9)
    refine r_ldcw d_M_worth_31 lc_M_277 ?_
    exact r_ireturn d_M_worth_34.1 rfl (hQ _ _ hw)
  · replace hw := hw.2 (fun g9 => w9 (b2i_0.mpr g9))
    refine r_iload_n (j := 2) d_M_worth_8 rfl ?_
    refine r_bipush d_M_worth_9 kb_m99 ?_
    refine r_bipush d_M_worth_11 kb_99 ?_
    refine r_callS (av := [ai v2, ai (-99 : Int32), ai (99 : Int32)]) (rest := []) d_M_worth_13 mk_M_isIn ll_M_148 st_M_isIn rfl rfl (nle rfl) (s_M_isIn  hw (fun r5 h4 hw => ?_))
    show aW none m_M_worth (d + 1) 16 [(0, ar v0), (1, ai v1), (2, ai v2)] [ai (b2i r5)] h4 0 0 QQ
    refine r_if_eq d_M_worth_16 (fun w9 => ?_) (fun w9 => ?_)
    · replace hw := hw.1 (b2i_0.mp w9)
      refine r_ldcw d_M_worth_31 lc_M_277 ?_
      exact r_ireturn d_M_worth_34.1 rfl (hQ _ _ hw)
    · replace hw := hw.2 (fun g9 => w9 (b2i_0.mpr g9))
      refine r_aload_n (j := 0) d_M_worth_19 rfl ?_
      refine r_bipush d_M_worth_20 kb_24 ?_
      refine r_iload_n (j := 1) d_M_worth_22 rfl ?_
      refine r_iadd d_M_worth_23 ?_
      refine r_iload_n (j := 2) d_M_worth_24 rfl ?_
      obtain ⟨q8, hw⟩ := hw
      refine r_callV (av := [ai ((24 : Int32) + v1), ai v2]) (rest := []) (ci := 12) d_M_worth_25 mk_M_becomes ll_M_290 im_M_becomes se_M_becomes rfl (nle rfl) rfl rfl (nle rfl) q8 (s_M_becomes (by omega) hw (fun r7 h6 hw => ?_))
      show aW none m_M_worth (d + 1) 28 [(0, ar v0), (1, ai v1), (2, ai v2)] [ai r7] h6 0 0 QQ
      refine r_goto d_M_worth_28 ?_
      exact r_ireturn d_M_worth_34.1 rfl (hQ _ _ hw)
set_option maxRecDepth 100000 in
set_option maxHeartbeats 4000000 in
theorem s_M_want {d : Nat} (hd : 2 ≤ d) {v0 : Nat} {v1 : Int32} {v2 : Int32} {h : Hp} {Q : Int32 → Hp → Prop} {QQ : Option AV → Hp → Prop} (hw : w_M_want v0 v1 v2 h Q) (hQ : ∀ r9 h9, Q r9 h9 → QQ (some (ai r9)) h9) : aCall m_M_want d [ar v0, ai v1, ai v2] h 0 0 QQ := by
  obtain ⟨d, rfl⟩ : ∃ d9, d = d9 + 1 := ⟨d - 1, by omega⟩
  refine aCall_in pl_M_want (nle rfl) ?_
  show aW none m_M_want (d + 1) 0 [(0, ar v0), (1, ai v1), (2, ai v2)] [] h 0 0 QQ
  unfold w_M_want at hw
  refine r_aload_n (j := 0) d_M_want_0 rfl ?_
  refine r_iload_n (j := 1) d_M_want_1 rfl ?_
  obtain ⟨q3, hw⟩ := hw
  refine r_callV (av := [ai v1]) (rest := []) (ci := 12) d_M_want_2 mk_M_isRow ll_M_271 im_M_isRow se_M_isRow rfl (nle rfl) rfl rfl (nle rfl) q3 (s_M_isRow (by omega) hw (fun r2 h1 hw => ?_))
  show aW none m_M_want (d + 1) 5 [(0, ar v0), (1, ai v1), (2, ai v2)] [ai (b2i r2)] h1 0 0 QQ
  refine r_if_eq d_M_want_5 (fun w9 => ?_) (fun w9 => ?_)
  · replace hw := hw.1 (b2i_0.mp w9)
    refine r_ldcw d_M_want_31 lc_M_277 ?_
    exact r_ireturn d_M_want_34.1 rfl (hQ _ _ hw)
  · replace hw := hw.2 (fun g9 => w9 (b2i_0.mpr g9))
    refine r_iload_n (j := 2) d_M_want_8 rfl ?_
    refine r_bipush d_M_want_9 kb_m20 ?_
    refine r_bipush d_M_want_11 kb_20 ?_
    refine r_callS (av := [ai v2, ai (-20 : Int32), ai (20 : Int32)]) (rest := []) d_M_want_13 mk_M_isIn ll_M_148 st_M_isIn rfl rfl (nle rfl) (s_M_isIn  hw (fun r5 h4 hw => ?_))
    show aW none m_M_want (d + 1) 16 [(0, ar v0), (1, ai v1), (2, ai v2)] [ai (b2i r5)] h4 0 0 QQ
    refine r_if_eq d_M_want_16 (fun w9 => ?_) (fun w9 => ?_)
    · replace hw := hw.1 (b2i_0.mp w9)
      refine r_ldcw d_M_want_31 lc_M_277 ?_
      exact r_ireturn d_M_want_34.1 rfl (hQ _ _ hw)
    · replace hw := hw.2 (fun g9 => w9 (b2i_0.mpr g9))
      refine r_aload_n (j := 0) d_M_want_19 rfl ?_
      refine r_bipush d_M_want_20 kb_32 ?_
      refine r_iload_n (j := 1) d_M_want_22 rfl ?_
      refine r_iadd d_M_want_23 ?_
      refine r_iload_n (j := 2) d_M_want_24 rfl ?_
      obtain ⟨q8, hw⟩ := hw
      refine r_callV (av := [ai ((32 : Int32) + v1), ai v2]) (rest := []) (ci := 12) d_M_want_25 mk_M_becomes ll_M_290 im_M_becomes se_M_becomes rfl (nle rfl) rfl rfl (nle rfl) q8 (s_M_becomes (by omega) hw (fun r7 h6 hw => ?_))
      show aW none m_M_want (d + 1) 28 [(0, ar v0), (1, ai v1), (2, ai v2)] [ai r7] h6 0 0 QQ
      refine r_goto d_M_want_28 ?_
      exact r_ireturn d_M_want_34.1 rfl (hQ _ _ hw)
set_option maxRecDepth 100000 in
set_option maxHeartbeats 4000000 in
theorem s_M_allow {d : Nat} (hd : 2 ≤ d) {v0 : Nat} {v1 : Int32} {h : Hp} {Q : Int32 → Hp → Prop} {QQ : Option AV → Hp → Prop} (hw : w_M_allow v0 v1 h Q) (hQ : ∀ r9 h9, Q r9 h9 → QQ (some (ai r9)) h9) : aCall m_M_allow d [ar v0, ai v1] h 0 0 QQ := by
  obtain ⟨d, rfl⟩ : ∃ d9, d = d9 + 1 := ⟨d - 1, by omega⟩
  refine aCall_in pl_M_allow (nle rfl) ?_
  show aW none m_M_allow (d + 1) 0 [(0, ar v0), (1, ai v1)] [] h 0 0 QQ
  unfold w_M_allow at hw
  refine r_iload_n (j := 1) d_M_allow_0 rfl ?_
  refine r_iconst d_M_allow_1 kc_1 ?_
  refine r_bipush d_M_allow_2 kb_12 ?_
  refine r_callS (av := [ai v1, ai (1 : Int32), ai (12 : Int32)]) (rest := []) d_M_allow_4 mk_M_isIn ll_M_148 st_M_isIn rfl rfl (nle rfl) (s_M_isIn  hw (fun r2 h1 hw => ?_))
  show aW none m_M_allow (d + 1) 7 [(0, ar v0), (1, ai v1)] [ai (b2i r2)] h1 0 0 QQ
  refine r_if_eq d_M_allow_7 (fun w9 => ?_) (fun w9 => ?_)
  · replace hw := hw.1 (b2i_0.mp w9)
    refine r_ldcw d_M_allow_20 lc_M_277 ?_
    exact r_ireturn d_M_allow_23.1 rfl (hQ _ _ hw)
  · replace hw := hw.2 (fun g9 => w9 (b2i_0.mpr g9))
    refine r_aload_n (j := 0) d_M_allow_10 rfl ?_
    refine r_bipush d_M_allow_11 kb_35 ?_
    refine r_iload_n (j := 1) d_M_allow_13 rfl ?_
    obtain ⟨q5, hw⟩ := hw
    refine r_callV (av := [ai (35 : Int32), ai v1]) (rest := []) (ci := 12) d_M_allow_14 mk_M_becomes ll_M_290 im_M_becomes se_M_becomes rfl (nle rfl) rfl rfl (nle rfl) q5 (s_M_becomes (by omega) hw (fun r4 h3 hw => ?_))
    show aW none m_M_allow (d + 1) 17 [(0, ar v0), (1, ai v1)] [ai r4] h3 0 0 QQ
    refine r_goto d_M_allow_17 ?_
    exact r_ireturn d_M_allow_23.1 rfl (hQ _ _ hw)
set_option maxRecDepth 100000 in
set_option maxHeartbeats 4000000 in
theorem s_M_hold {d : Nat} (hd : 2 ≤ d) {v0 : Nat} {v1 : Int32} {v2 : Int32} {h : Hp} {Q : Int32 → Hp → Prop} {QQ : Option AV → Hp → Prop} (hw : w_M_hold v0 v1 v2 h Q) (hQ : ∀ r9 h9, Q r9 h9 → QQ (some (ai r9)) h9) : aCall m_M_hold d [ar v0, ai v1, ai v2] h 0 0 QQ := by
  obtain ⟨d, rfl⟩ : ∃ d9, d = d9 + 1 := ⟨d - 1, by omega⟩
  refine aCall_in pl_M_hold (nle rfl) ?_
  show aW none m_M_hold (d + 1) 0 [(0, ar v0), (1, ai v1), (2, ai v2)] [] h 0 0 QQ
  unfold w_M_hold at hw
  refine r_aload_n (j := 0) d_M_hold_0 rfl ?_
  refine r_iload_n (j := 1) d_M_hold_1 rfl ?_
  obtain ⟨q3, hw⟩ := hw
  refine r_callV (av := [ai v1]) (rest := []) (ci := 12) d_M_hold_2 mk_M_isColumn ll_M_268 im_M_isColumn se_M_isColumn rfl (nle rfl) rfl rfl (nle rfl) q3 (s_M_isColumn (by omega) hw (fun r2 h1 hw => ?_))
  show aW none m_M_hold (d + 1) 5 [(0, ar v0), (1, ai v1), (2, ai v2)] [ai (b2i r2)] h1 0 0 QQ
  refine r_if_eq d_M_hold_5 (fun w9 => ?_) (fun w9 => ?_)
  · replace hw := hw.1 (b2i_0.mp w9)
    refine r_iconst d_M_hold_18 kc_m1 ?_
    exact r_ireturn d_M_hold_19.1 rfl (hQ _ _ hw)
  · replace hw := hw.2 (fun g9 => w9 (b2i_0.mpr g9))
    refine r_iload_n (j := 2) d_M_hold_8 rfl ?_
    refine r_iconst d_M_hold_9 kc_0 ?_
    refine r_bipush d_M_hold_10 kb_99 ?_
    refine r_callS (av := [ai v2, ai (0 : Int32), ai (99 : Int32)]) (rest := []) d_M_hold_12 mk_M_isIn ll_M_148 st_M_isIn rfl rfl (nle rfl) (s_M_isIn  hw (fun r5 h4 hw => ?_))
    show aW none m_M_hold (d + 1) 15 [(0, ar v0), (1, ai v1), (2, ai v2)] [ai (b2i r5)] h4 0 0 QQ
    refine r_if_ne d_M_hold_15 (fun w9 => ?_) (fun w9 => ?_)
    · replace hw := hw.2 (fun g9 => w9 (b2i_0.mpr g9))
      refine r_aload_n (j := 0) d_M_hold_20 rfl ?_
      refine r_bipush d_M_hold_21 kb_36 ?_
      refine r_iload_n (j := 1) d_M_hold_23 rfl ?_
      refine r_iadd d_M_hold_24 ?_
      refine r_iload_n (j := 2) d_M_hold_25 rfl ?_
      obtain ⟨q8, hw⟩ := hw
      refine r_callV (av := [ai ((36 : Int32) + v1), ai v2]) (rest := []) (ci := 12) d_M_hold_26 mk_M_becomes ll_M_290 im_M_becomes se_M_becomes rfl (nle rfl) rfl rfl (nle rfl) q8 (s_M_becomes (by omega) hw (fun r7 h6 hw => ?_))
      show aW none m_M_hold (d + 1) 29 [(0, ar v0), (1, ai v1), (2, ai v2)] [ai r7] h6 0 0 QQ
      refine r_istore_n (ls2 := [(3, ai r7), (0, ar v0), (1, ai v1), (2, ai v2)]) d_M_hold_29 (nle rfl) rfl ?_
      refine r_iload_n (j := 0) d_M_hold_30 rfl ?_
      refine r_ldcw d_M_hold_31 lc_M_277 ?_
      refine r_icmp_ne d_M_hold_34 (fun w9 => ?_) (fun w9 => ?_)
      · replace hw := hw.2 w9
        refine r_iload_n (j := 0) d_M_hold_41 rfl ?_
        exact r_ireturn d_M_hold_42.1 rfl (hQ _ _ hw)
      · replace hw := hw.1 w9
        refine r_iconst d_M_hold_37 kc_m1 ?_
        refine r_goto d_M_hold_38 ?_
        exact r_ireturn d_M_hold_42.1 rfl (hQ _ _ hw)
    · replace hw := hw.1 (b2i_0.mp w9)
      refine r_iconst d_M_hold_18 kc_m1 ?_
      exact r_ireturn d_M_hold_19.1 rfl (hQ _ _ hw)
set_option maxRecDepth 100000 in
set_option maxHeartbeats 4000000 in
theorem s_M_held {d : Nat} (hd : 2 ≤ d) {v0 : Nat} {v1 : Int32} {h : Hp} {Q : Int32 → Hp → Prop} {QQ : Option AV → Hp → Prop} (hw : w_M_held v0 v1 h Q) (hQ : ∀ r9 h9, Q r9 h9 → QQ (some (ai r9)) h9) : aCall m_M_held d [ar v0, ai v1] h 0 0 QQ := by
  obtain ⟨d, rfl⟩ : ∃ d9, d = d9 + 1 := ⟨d - 1, by omega⟩
  refine aCall_in pl_M_held (nle rfl) ?_
  show aW none m_M_held (d + 1) 0 [(0, ar v0), (1, ai v1)] [] h 0 0 QQ
  unfold w_M_held at hw
  refine r_aload_n (j := 0) d_M_held_0 rfl ?_
  refine r_iload_n (j := 1) d_M_held_1 rfl ?_
  obtain ⟨q3, hw⟩ := hw
  refine r_callV (av := [ai v1]) (rest := []) (ci := 12) d_M_held_2 mk_M_isColumn ll_M_268 im_M_isColumn se_M_isColumn rfl (nle rfl) rfl rfl (nle rfl) q3 (s_M_isColumn (by omega) hw (fun r2 h1 hw => ?_))
  show aW none m_M_held (d + 1) 5 [(0, ar v0), (1, ai v1)] [ai (b2i r2)] h1 0 0 QQ
  refine r_if_eq d_M_held_5 (fun w9 => ?_) (fun w9 => ?_)
  · replace hw := hw.1 (b2i_0.mp w9)
    refine r_iconst d_M_held_20 kc_m1 ?_
    exact r_ireturn d_M_held_21.1 rfl (hQ _ _ hw)
  · replace hw := hw.2 (fun g9 => w9 (b2i_0.mpr g9))
    refine r_aload_n (j := 0) d_M_held_8 rfl ?_
    obtain ⟨q4, hw⟩ := hw
    refine r_getR d_M_held_9 ok_12 (nle rfl) (nle rfl) rfl lf_M_30 q4 ?_
    refine r_bipush d_M_held_12 kb_36 ?_
    refine r_iload_n (j := 1) d_M_held_14 rfl ?_
    refine r_iadd d_M_held_15 ?_
    obtain ⟨q5, hw⟩ := hw
    obtain ⟨q6, hw⟩ := hw
    refine r_iald d_M_held_16 q5 q6 ?_
    refine r_goto d_M_held_17 ?_
    exact r_ireturn d_M_held_21.1 rfl (hQ _ _ hw)
set_option maxRecDepth 100000 in
set_option maxHeartbeats 4000000 in
theorem s_M_heldSum_L4 {d : Nat} (hd : 1 ≤ d + 1) {Q : Int32 → Hp → Prop} {QQ : Option AV → Hp → Prop} (hQ : ∀ r9 h9, Q r9 h9 → QQ (some (ai r9)) h9) {v0 : Nat} {v1 : Int32} : ∀ (n : Nat) (v2 : Int32) (v3 : Int32) (h : Hp), w_M_heldSum_L4 Q  v0 v1 n v2 v3 h → aW none m_M_heldSum (d + 1) 4 [(0, ar v0), (1, ai v1), (2, ai v2), (3, ai v3)] [] h 0 0 QQ := by
  intro n
  induction n with
  | zero => intro v2 v3 h hw; exact hw.elim
  | succ n ih =>
    intro v2 v3 h hw
    unfold w_M_heldSum_L4 at hw
    refine r_iload_n (j := 3) d_M_heldSum_4 rfl ?_
    refine r_aload_n (j := 0) d_M_heldSum_5 rfl ?_
    obtain ⟨q1, hw⟩ := hw
    refine r_getI d_M_heldSum_6 ok_12 (nle rfl) (nle rfl) rfl lf_M_247 q1 ?_
    refine r_icmp_ge d_M_heldSum_9 (fun w9 => ?_) (fun w9 => ?_)
    · replace hw := hw.1 w9
      refine r_iload_n (j := 2) d_M_heldSum_37 rfl ?_
      exact r_ireturn d_M_heldSum_38.1 rfl (hQ _ _ hw)
    · replace hw := hw.2 w9
      refine r_iload_n (j := 2) d_M_heldSum_12 rfl ?_
      refine r_aload_n (j := 0) d_M_heldSum_13 rfl ?_
      refine r_getR d_M_heldSum_14 ok_12 (nle rfl) (nle rfl) rfl lf_M_30 q1 ?_
      refine r_bipush d_M_heldSum_17 kb_36 ?_
      refine r_iload_n (j := 3) d_M_heldSum_19 rfl ?_
      refine r_iadd d_M_heldSum_20 ?_
      obtain ⟨q2, hw⟩ := hw
      obtain ⟨q3, hw⟩ := hw
      refine r_iald d_M_heldSum_21 q2 q3 ?_
      refine r_aload_n (j := 0) d_M_heldSum_22 rfl ?_
      refine r_iload_n (j := 3) d_M_heldSum_23 rfl ?_
      refine r_iload_n (j := 1) d_M_heldSum_24 rfl ?_
      refine r_callV (av := [ai v3, ai v1]) (rest := [ai (gI h (gR h v0 22) (ix ((36 : Int32) + v3))), ai v2]) (ci := 12) d_M_heldSum_25 mk_M_numberOf ll_M_274 im_M_numberOf se_M_numberOf rfl (nle rfl) rfl rfl (nle rfl) q1 (s_M_numberOf  hw (fun r5 h4 hw => ?_))
      show aW none m_M_heldSum (d + 1) 28 [(0, ar v0), (1, ai v1), (2, ai v2), (3, ai v3)] [ai r5, ai (gI h (gR h v0 22) (ix ((36 : Int32) + v3))), ai v2] h4 0 0 QQ
      refine r_imul d_M_heldSum_28 ?_
      refine r_iadd d_M_heldSum_29 ?_
      refine r_istore_n (ls2 := [(2, ai (v2 + ((gI h (gR h v0 22) (ix ((36 : Int32) + v3))) * r5))), (0, ar v0), (1, ai v1), (3, ai v3)]) d_M_heldSum_30 (nle rfl) rfl ?_
      refine r_iinc (j := 3) (ls2 := [(3, ai (v3 + (1 : Int32))), (2, ai (v2 + ((gI h (gR h v0 22) (ix ((36 : Int32) + v3))) * r5))), (0, ar v0), (1, ai v1)]) d_M_heldSum_31 rfl (congrArg (HAdd.hAdd v3) kc_1) (nle rfl) rfl ?_
      refine r_goto d_M_heldSum_34 ?_
      refine r_pick (ls2 := [(0, ar v0), (1, ai v1), (2, ai (v2 + ((gI h (gR h v0 22) (ix ((36 : Int32) + v3))) * r5))), (3, ai (v3 + (1 : Int32)))]) [2, 3, 1, 0] rfl ?_
      exact ih _ _ _ hw
set_option maxRecDepth 100000 in
set_option maxHeartbeats 4000000 in
theorem s_M_heldSum {d : Nat} (hd : 1 ≤ d) {v0 : Nat} {v1 : Int32} {h : Hp} {Q : Int32 → Hp → Prop} {QQ : Option AV → Hp → Prop} (hw : w_M_heldSum v0 v1 h Q) (hQ : ∀ r9 h9, Q r9 h9 → QQ (some (ai r9)) h9) : aCall m_M_heldSum d [ar v0, ai v1] h 0 0 QQ := by
  obtain ⟨d, rfl⟩ : ∃ d9, d = d9 + 1 := ⟨d - 1, by omega⟩
  refine aCall_in pl_M_heldSum (nle rfl) ?_
  show aW none m_M_heldSum (d + 1) 0 [(0, ar v0), (1, ai v1)] [] h 0 0 QQ
  unfold w_M_heldSum at hw
  refine r_iconst d_M_heldSum_0 kc_0 ?_
  refine r_istore_n (ls2 := [(2, ai (0 : Int32)), (0, ar v0), (1, ai v1)]) d_M_heldSum_1 (nle rfl) rfl ?_
  refine r_iconst d_M_heldSum_2 kc_0 ?_
  refine r_istore_n (ls2 := [(3, ai (0 : Int32)), (2, ai (0 : Int32)), (0, ar v0), (1, ai v1)]) d_M_heldSum_3 (nle rfl) rfl ?_
  obtain ⟨n6, hw⟩ := hw
  refine r_pick (ls2 := [(0, ar v0), (1, ai v1), (2, ai (0 : Int32)), (3, ai (0 : Int32))]) [2, 3, 1, 0] rfl ?_
  exact s_M_heldSum_L4 hd hQ  n6 _ _ _ hw
set_option maxRecDepth 100000 in
set_option maxHeartbeats 4000000 in
theorem s_M_heldGain_L4 {d : Nat} (hd : 1 ≤ d + 1) {Q : Int32 → Hp → Prop} {QQ : Option AV → Hp → Prop} (hQ : ∀ r9 h9, Q r9 h9 → QQ (some (ai r9)) h9) {v0 : Nat} : ∀ (n : Nat) (v1 : Int32) (v2 : Int32) (h : Hp), w_M_heldGain_L4 Q  v0 n v1 v2 h → aW none m_M_heldGain (d + 1) 4 [(0, ar v0), (1, ai v1), (2, ai v2)] [] h 0 0 QQ := by
  intro n
  induction n with
  | zero => intro v1 v2 h hw; exact hw.elim
  | succ n ih =>
    intro v1 v2 h hw
    unfold w_M_heldGain_L4 at hw
    refine r_iload_n (j := 2) d_M_heldGain_4 rfl ?_
    refine r_aload_n (j := 0) d_M_heldGain_5 rfl ?_
    obtain ⟨q1, hw⟩ := hw
    refine r_getI d_M_heldGain_6 ok_12 (nle rfl) (nle rfl) rfl lf_M_247 q1 ?_
    refine r_icmp_ge d_M_heldGain_9 (fun w9 => ?_) (fun w9 => ?_)
    · replace hw := hw.1 w9
      refine r_iload_n (j := 1) d_M_heldGain_36 rfl ?_
      exact r_ireturn d_M_heldGain_37.1 rfl (hQ _ _ hw)
    · replace hw := hw.2 w9
      refine r_iload_n (j := 1) d_M_heldGain_12 rfl ?_
      refine r_aload_n (j := 0) d_M_heldGain_13 rfl ?_
      refine r_getR d_M_heldGain_14 ok_12 (nle rfl) (nle rfl) rfl lf_M_30 q1 ?_
      refine r_bipush d_M_heldGain_17 kb_36 ?_
      refine r_iload_n (j := 2) d_M_heldGain_19 rfl ?_
      refine r_iadd d_M_heldGain_20 ?_
      obtain ⟨q2, hw⟩ := hw
      obtain ⟨q3, hw⟩ := hw
      refine r_iald d_M_heldGain_21 q2 q3 ?_
      refine r_aload_n (j := 0) d_M_heldGain_22 rfl ?_
      refine r_iload_n (j := 2) d_M_heldGain_23 rfl ?_
      refine r_callV (av := [ai v2]) (rest := [ai (gI h (gR h v0 22) (ix ((36 : Int32) + v2))), ai v1]) (ci := 12) d_M_heldGain_24 mk_M_gainOf ll_M_278 im_M_gainOf se_M_gainOf rfl (nle rfl) rfl rfl (nle rfl) q1 (s_M_gainOf  hw (fun r5 h4 hw => ?_))
      show aW none m_M_heldGain (d + 1) 27 [(0, ar v0), (1, ai v1), (2, ai v2)] [ai r5, ai (gI h (gR h v0 22) (ix ((36 : Int32) + v2))), ai v1] h4 0 0 QQ
      refine r_imul d_M_heldGain_27 ?_
      refine r_iadd d_M_heldGain_28 ?_
      refine r_istore_n (ls2 := [(1, ai (v1 + ((gI h (gR h v0 22) (ix ((36 : Int32) + v2))) * r5))), (0, ar v0), (2, ai v2)]) d_M_heldGain_29 (nle rfl) rfl ?_
      refine r_iinc (j := 2) (ls2 := [(2, ai (v2 + (1 : Int32))), (1, ai (v1 + ((gI h (gR h v0 22) (ix ((36 : Int32) + v2))) * r5))), (0, ar v0)]) d_M_heldGain_30 rfl (congrArg (HAdd.hAdd v2) kc_1) (nle rfl) rfl ?_
      refine r_goto d_M_heldGain_33 ?_
      refine r_pick (ls2 := [(0, ar v0), (1, ai (v1 + ((gI h (gR h v0 22) (ix ((36 : Int32) + v2))) * r5))), (2, ai (v2 + (1 : Int32)))]) [2, 1, 0] rfl ?_
      exact ih _ _ _ hw
set_option maxRecDepth 100000 in
set_option maxHeartbeats 4000000 in
theorem s_M_heldGain {d : Nat} (hd : 1 ≤ d) {v0 : Nat} {h : Hp} {Q : Int32 → Hp → Prop} {QQ : Option AV → Hp → Prop} (hw : w_M_heldGain v0 h Q) (hQ : ∀ r9 h9, Q r9 h9 → QQ (some (ai r9)) h9) : aCall m_M_heldGain d [ar v0] h 0 0 QQ := by
  obtain ⟨d, rfl⟩ : ∃ d9, d = d9 + 1 := ⟨d - 1, by omega⟩
  refine aCall_in pl_M_heldGain (nle rfl) ?_
  show aW none m_M_heldGain (d + 1) 0 [(0, ar v0)] [] h 0 0 QQ
  unfold w_M_heldGain at hw
  refine r_iconst d_M_heldGain_0 kc_0 ?_
  refine r_istore_n (ls2 := [(1, ai (0 : Int32)), (0, ar v0)]) d_M_heldGain_1 (nle rfl) rfl ?_
  refine r_iconst d_M_heldGain_2 kc_0 ?_
  refine r_istore_n (ls2 := [(2, ai (0 : Int32)), (1, ai (0 : Int32)), (0, ar v0)]) d_M_heldGain_3 (nle rfl) rfl ?_
  obtain ⟨n6, hw⟩ := hw
  refine r_pick (ls2 := [(0, ar v0), (1, ai (0 : Int32)), (2, ai (0 : Int32))]) [2, 1, 0] rfl ?_
  exact s_M_heldGain_L4 hd hQ  n6 _ _ _ hw
set_option maxRecDepth 100000 in
set_option maxHeartbeats 4000000 in
theorem s_M_heldSteps_L4 {d : Nat} {Q : Int32 → Hp → Prop} {QQ : Option AV → Hp → Prop} (hQ : ∀ r9 h9, Q r9 h9 → QQ (some (ai r9)) h9) {v0 : Nat} : ∀ (n : Nat) (v1 : Int32) (v2 : Int32) (h : Hp), w_M_heldSteps_L4 Q  v0 n v1 v2 h → aW none m_M_heldSteps d 4 [(0, ar v0), (1, ai v1), (2, ai v2)] [] h 0 0 QQ := by
  intro n
  induction n with
  | zero => intro v1 v2 h hw; exact hw.elim
  | succ n ih =>
    intro v1 v2 h hw
    unfold w_M_heldSteps_L4 at hw
    refine r_iload_n (j := 2) d_M_heldSteps_4 rfl ?_
    refine r_aload_n (j := 0) d_M_heldSteps_5 rfl ?_
    obtain ⟨q1, hw⟩ := hw
    refine r_getI d_M_heldSteps_6 ok_12 (nle rfl) (nle rfl) rfl lf_M_247 q1 ?_
    refine r_icmp_ge d_M_heldSteps_9 (fun w9 => ?_) (fun w9 => ?_)
    · replace hw := hw.1 w9
      refine r_iload_n (j := 1) d_M_heldSteps_30 rfl ?_
      exact r_ireturn d_M_heldSteps_31.1 rfl (hQ _ _ hw)
    · replace hw := hw.2 w9
      refine r_iload_n (j := 1) d_M_heldSteps_12 rfl ?_
      refine r_aload_n (j := 0) d_M_heldSteps_13 rfl ?_
      refine r_getR d_M_heldSteps_14 ok_12 (nle rfl) (nle rfl) rfl lf_M_30 q1 ?_
      refine r_bipush d_M_heldSteps_17 kb_36 ?_
      refine r_iload_n (j := 2) d_M_heldSteps_19 rfl ?_
      refine r_iadd d_M_heldSteps_20 ?_
      obtain ⟨q2, hw⟩ := hw
      obtain ⟨q3, hw⟩ := hw
      refine r_iald d_M_heldSteps_21 q2 q3 ?_
      refine r_iadd d_M_heldSteps_22 ?_
      refine r_istore_n (ls2 := [(1, ai (v1 + (gI h (gR h v0 22) (ix ((36 : Int32) + v2))))), (0, ar v0), (2, ai v2)]) d_M_heldSteps_23 (nle rfl) rfl ?_
      refine r_iinc (j := 2) (ls2 := [(2, ai (v2 + (1 : Int32))), (1, ai (v1 + (gI h (gR h v0 22) (ix ((36 : Int32) + v2))))), (0, ar v0)]) d_M_heldSteps_24 rfl (congrArg (HAdd.hAdd v2) kc_1) (nle rfl) rfl ?_
      refine r_goto d_M_heldSteps_27 ?_
      refine r_pick (ls2 := [(0, ar v0), (1, ai (v1 + (gI h (gR h v0 22) (ix ((36 : Int32) + v2))))), (2, ai (v2 + (1 : Int32)))]) [2, 1, 0] rfl ?_
      exact ih _ _ _ hw
set_option maxRecDepth 100000 in
set_option maxHeartbeats 4000000 in
theorem s_M_heldSteps {d : Nat} {v0 : Nat} {h : Hp} {Q : Int32 → Hp → Prop} {QQ : Option AV → Hp → Prop} (hw : w_M_heldSteps v0 h Q) (hQ : ∀ r9 h9, Q r9 h9 → QQ (some (ai r9)) h9) : aCall m_M_heldSteps d [ar v0] h 0 0 QQ := by
  refine aCall_in pl_M_heldSteps (nle rfl) ?_
  show aW none m_M_heldSteps d 0 [(0, ar v0)] [] h 0 0 QQ
  unfold w_M_heldSteps at hw
  refine r_iconst d_M_heldSteps_0 kc_0 ?_
  refine r_istore_n (ls2 := [(1, ai (0 : Int32)), (0, ar v0)]) d_M_heldSteps_1 (nle rfl) rfl ?_
  refine r_iconst d_M_heldSteps_2 kc_0 ?_
  refine r_istore_n (ls2 := [(2, ai (0 : Int32)), (1, ai (0 : Int32)), (0, ar v0)]) d_M_heldSteps_3 (nle rfl) rfl ?_
  obtain ⟨n4, hw⟩ := hw
  refine r_pick (ls2 := [(0, ar v0), (1, ai (0 : Int32)), (2, ai (0 : Int32))]) [2, 1, 0] rfl ?_
  exact s_M_heldSteps_L4 hQ  n4 _ _ _ hw
set_option maxRecDepth 100000 in
set_option maxHeartbeats 4000000 in
theorem s_M_heldOff_L4 {d : Nat} (hd : 2 ≤ d + 1) {Q : Int32 → Hp → Prop} {QQ : Option AV → Hp → Prop} (hQ : ∀ r9 h9, Q r9 h9 → QQ (some (ai r9)) h9) {v0 : Nat} : ∀ (n : Nat) (v1 : Int32) (v2 : Int32) (h : Hp), w_M_heldOff_L4 Q  v0 n v1 v2 h → aW none m_M_heldOff (d + 1) 4 [(0, ar v0), (1, ai v1), (2, ai v2)] [] h 0 0 QQ := by
  intro n
  induction n with
  | zero => intro v1 v2 h hw; exact hw.elim
  | succ n ih =>
    intro v1 v2 h hw
    unfold w_M_heldOff_L4 at hw
    refine r_iload_n (j := 2) d_M_heldOff_4 rfl ?_
    refine r_aload_n (j := 0) d_M_heldOff_5 rfl ?_
    obtain ⟨q1, hw⟩ := hw
    refine r_getI d_M_heldOff_6 ok_12 (nle rfl) (nle rfl) rfl lf_M_244 q1 ?_
    refine r_icmp_ge d_M_heldOff_9 (fun w9 => ?_) (fun w9 => ?_)
    · replace hw := hw.1 w9
      refine r_iload_n (j := 1) d_M_heldOff_35 rfl ?_
      exact r_ireturn d_M_heldOff_36.1 rfl (hQ _ _ hw)
    · replace hw := hw.2 w9
      refine r_iload_n (j := 1) d_M_heldOff_12 rfl ?_
      refine r_aload_n (j := 0) d_M_heldOff_13 rfl ?_
      refine r_iload_n (j := 2) d_M_heldOff_14 rfl ?_
      refine r_callV (av := [ai v2]) (rest := [ai v1]) (ci := 12) d_M_heldOff_15 mk_M_heldSum ll_M_293 im_M_heldSum se_M_heldSum rfl (nle rfl) rfl rfl (nle rfl) q1 (s_M_heldSum (by omega) hw (fun r3 h2 hw => ?_))
      show aW none m_M_heldOff (d + 1) 18 [(0, ar v0), (1, ai v1), (2, ai v2)] [ai r3, ai v1] h2 0 0 QQ
      refine r_aload_n (j := 0) d_M_heldOff_18 rfl ?_
      refine r_iload_n (j := 2) d_M_heldOff_19 rfl ?_
      obtain ⟨q6, hw⟩ := hw
      refine r_callV (av := [ai v2]) (rest := [ai r3, ai v1]) (ci := 12) d_M_heldOff_20 mk_M_needOf ll_M_281 im_M_needOf se_M_needOf rfl (nle rfl) rfl rfl (nle rfl) q6 (s_M_needOf  hw (fun r5 h4 hw => ?_))
      show aW none m_M_heldOff (d + 1) 23 [(0, ar v0), (1, ai v1), (2, ai v2)] [ai r5, ai r3, ai v1] h4 0 0 QQ
      refine r_isub d_M_heldOff_23 ?_
      refine r_callS (av := [ai (r3 - r5)]) (rest := [ai v1]) d_M_heldOff_24 mk_M_plus ll_M_296 st_M_plus rfl rfl (nle rfl) (s_M_plus  hw (fun r8 h7 hw => ?_))
      show aW none m_M_heldOff (d + 1) 27 [(0, ar v0), (1, ai v1), (2, ai v2)] [ai r8, ai v1] h7 0 0 QQ
      refine r_iadd d_M_heldOff_27 ?_
      refine r_istore_n (ls2 := [(1, ai (v1 + r8)), (0, ar v0), (2, ai v2)]) d_M_heldOff_28 (nle rfl) rfl ?_
      refine r_iinc (j := 2) (ls2 := [(2, ai (v2 + (1 : Int32))), (1, ai (v1 + r8)), (0, ar v0)]) d_M_heldOff_29 rfl (congrArg (HAdd.hAdd v2) kc_1) (nle rfl) rfl ?_
      refine r_goto d_M_heldOff_32 ?_
      refine r_pick (ls2 := [(0, ar v0), (1, ai (v1 + r8)), (2, ai (v2 + (1 : Int32)))]) [2, 1, 0] rfl ?_
      exact ih _ _ _ hw
set_option maxRecDepth 100000 in
set_option maxHeartbeats 4000000 in
theorem s_M_heldOff {d : Nat} (hd : 2 ≤ d) {v0 : Nat} {h : Hp} {Q : Int32 → Hp → Prop} {QQ : Option AV → Hp → Prop} (hw : w_M_heldOff v0 h Q) (hQ : ∀ r9 h9, Q r9 h9 → QQ (some (ai r9)) h9) : aCall m_M_heldOff d [ar v0] h 0 0 QQ := by
  obtain ⟨d, rfl⟩ : ∃ d9, d = d9 + 1 := ⟨d - 1, by omega⟩
  refine aCall_in pl_M_heldOff (nle rfl) ?_
  show aW none m_M_heldOff (d + 1) 0 [(0, ar v0)] [] h 0 0 QQ
  unfold w_M_heldOff at hw
  refine r_iconst d_M_heldOff_0 kc_0 ?_
  refine r_istore_n (ls2 := [(1, ai (0 : Int32)), (0, ar v0)]) d_M_heldOff_1 (nle rfl) rfl ?_
  refine r_iconst d_M_heldOff_2 kc_0 ?_
  refine r_istore_n (ls2 := [(2, ai (0 : Int32)), (1, ai (0 : Int32)), (0, ar v0)]) d_M_heldOff_3 (nle rfl) rfl ?_
  obtain ⟨n9, hw⟩ := hw
  refine r_pick (ls2 := [(0, ar v0), (1, ai (0 : Int32)), (2, ai (0 : Int32))]) [2, 1, 0] rfl ?_
  exact s_M_heldOff_L4 hd hQ  n9 _ _ _ hw
set_option maxRecDepth 100000 in
set_option maxHeartbeats 4000000 in
theorem s_M_holding {d : Nat} (hd : 3 ≤ d) {v0 : Nat} {v1 : Int32} {h : Hp} {Q : Int32 → Hp → Prop} {QQ : Option AV → Hp → Prop} (hw : w_M_holding v0 v1 h Q) (hQ : ∀ r9 h9, Q r9 h9 → QQ (some (ai r9)) h9) : aCall m_M_holding d [ar v0, ai v1] h 0 0 QQ := by
  obtain ⟨d, rfl⟩ : ∃ d9, d = d9 + 1 := ⟨d - 1, by omega⟩
  refine aCall_in pl_M_holding (nle rfl) ?_
  show aW none m_M_holding (d + 1) 0 [(0, ar v0), (1, ai v1)] [] h 0 0 QQ
  unfold w_M_holding at hw
  refine r_iload_n (j := 1) d_M_holding_0 rfl ?_
  refine r_iconst d_M_holding_1 kc_0 ?_
  refine r_iconst d_M_holding_2 kc_2 ?_
  refine r_callS (av := [ai v1, ai (0 : Int32), ai (2 : Int32)]) (rest := []) d_M_holding_3 mk_M_isIn ll_M_148 st_M_isIn rfl rfl (nle rfl) (s_M_isIn  hw (fun r2 h1 hw => ?_))
  show aW none m_M_holding (d + 1) 6 [(0, ar v0), (1, ai v1)] [ai (b2i r2)] h1 0 0 QQ
  refine r_if_eq d_M_holding_6 (fun w9 => ?_) (fun w9 => ?_)
  · replace hw := hw.1 (b2i_0.mp w9)
    refine r_iload_n (j := 1) d_M_holding_29 rfl ?_
    refine r_iconst d_M_holding_30 kc_3 ?_
    refine r_icmp_ne d_M_holding_31 (fun w9 => ?_) (fun w9 => ?_)
    · replace hw := hw.2 w9
      refine r_iload_n (j := 1) d_M_holding_41 rfl ?_
      refine r_iconst d_M_holding_42 kc_4 ?_
      refine r_icmp_ne d_M_holding_43 (fun w9 => ?_) (fun w9 => ?_)
      · replace hw := hw.2 w9
        refine r_iload_n (j := 1) d_M_holding_53 rfl ?_
        refine r_iconst d_M_holding_54 kc_5 ?_
        refine r_icmp_ne d_M_holding_55 (fun w9 => ?_) (fun w9 => ?_)
        · replace hw := hw.2 w9
          refine r_ldcw d_M_holding_65 lc_M_277 ?_
          exact r_ireturn d_M_holding_68.1 rfl (hQ _ _ hw)
        · replace hw := hw.1 w9
          refine r_aload_n (j := 0) d_M_holding_58 rfl ?_
          obtain ⟨q5, hw⟩ := hw
          refine r_callV (av := []) (rest := []) (ci := 12) d_M_holding_59 mk_M_heldOff ll_M_306 im_M_heldOff se_M_heldOff rfl (nle rfl) rfl rfl (nle rfl) q5 (s_M_heldOff (by omega) hw (fun r4 h3 hw => ?_))
          show aW none m_M_holding (d + 1) 62 [(0, ar v0), (1, ai v1)] [ai r4] h3 0 0 QQ
          refine r_goto d_M_holding_62 ?_
          exact r_ireturn d_M_holding_68.1 rfl (hQ _ _ hw)
      · replace hw := hw.1 w9
        refine r_aload_n (j := 0) d_M_holding_46 rfl ?_
        obtain ⟨q8, hw⟩ := hw
        refine r_callV (av := []) (rest := []) (ci := 12) d_M_holding_47 mk_M_heldSteps ll_M_303 im_M_heldSteps se_M_heldSteps rfl (nle rfl) rfl rfl (nle rfl) q8 (s_M_heldSteps  hw (fun r7 h6 hw => ?_))
        show aW none m_M_holding (d + 1) 50 [(0, ar v0), (1, ai v1)] [ai r7] h6 0 0 QQ
        refine r_goto d_M_holding_50 ?_
        exact r_ireturn d_M_holding_68.1 rfl (hQ _ _ hw)
    · replace hw := hw.1 w9
      refine r_aload_n (j := 0) d_M_holding_34 rfl ?_
      obtain ⟨q11, hw⟩ := hw
      refine r_callV (av := []) (rest := []) (ci := 12) d_M_holding_35 mk_M_heldGain ll_M_299 im_M_heldGain se_M_heldGain rfl (nle rfl) rfl rfl (nle rfl) q11 (s_M_heldGain (by omega) hw (fun r10 h9 hw => ?_))
      show aW none m_M_holding (d + 1) 38 [(0, ar v0), (1, ai v1)] [ai r10] h9 0 0 QQ
      refine r_goto d_M_holding_38 ?_
      exact r_ireturn d_M_holding_68.1 rfl (hQ _ _ hw)
  · replace hw := hw.2 (fun g9 => w9 (b2i_0.mpr g9))
    refine r_aload_n (j := 0) d_M_holding_9 rfl ?_
    refine r_iload_n (j := 1) d_M_holding_10 rfl ?_
    obtain ⟨q14, hw⟩ := hw
    refine r_callV (av := [ai v1]) (rest := []) (ci := 12) d_M_holding_11 mk_M_isRow ll_M_271 im_M_isRow se_M_isRow rfl (nle rfl) rfl rfl (nle rfl) q14 (s_M_isRow (by omega) hw (fun r13 h12 hw => ?_))
    show aW none m_M_holding (d + 1) 14 [(0, ar v0), (1, ai v1)] [ai (b2i r13)] h12 0 0 QQ
    refine r_if_eq d_M_holding_14 (fun w9 => ?_) (fun w9 => ?_)
    · replace hw := hw.1 (b2i_0.mp w9)
      refine r_ldcw d_M_holding_25 lc_M_277 ?_
      exact r_ireturn d_M_holding_28.1 rfl (hQ _ _ hw)
    · replace hw := hw.2 (fun g9 => w9 (b2i_0.mpr g9))
      refine r_aload_n (j := 0) d_M_holding_17 rfl ?_
      refine r_iload_n (j := 1) d_M_holding_18 rfl ?_
      obtain ⟨q17, hw⟩ := hw
      refine r_callV (av := [ai v1]) (rest := []) (ci := 12) d_M_holding_19 mk_M_heldSum ll_M_293 im_M_heldSum se_M_heldSum rfl (nle rfl) rfl rfl (nle rfl) q17 (s_M_heldSum (by omega) hw (fun r16 h15 hw => ?_))
      show aW none m_M_holding (d + 1) 22 [(0, ar v0), (1, ai v1)] [ai r16] h15 0 0 QQ
      refine r_goto d_M_holding_22 ?_
      exact r_ireturn d_M_holding_28.1 rfl (hQ _ _ hw)
set_option maxRecDepth 100000 in
set_option maxHeartbeats 4000000 in
theorem s_M_firstPlan_L2 {d : Nat} {Q : Bool → Hp → Prop} {QQ : Option AV → Hp → Prop} (hQ : ∀ r9 h9, Q r9 h9 → QQ (some (ai (b2i r9))) h9) {v0 : Nat} {v1 : Int32} : ∀ (n : Nat) (v2 : Int32) (h : Hp), w_M_firstPlan_L2 Q  v0 v1 n v2 h → aW none m_M_firstPlan d 2 [(0, ar v0), (1, ai v1), (2, ai v2)] [] h 0 0 QQ := by
  intro n
  induction n with
  | zero => intro v2 h hw; exact hw.elim
  | succ n ih =>
    intro v2 h hw
    unfold w_M_firstPlan_L2 at hw
    refine r_iload_n (j := 2) d_M_firstPlan_2 rfl ?_
    refine r_bipush d_M_firstPlan_3 kb_8 ?_
    refine r_icmp_ge d_M_firstPlan_5 (fun w9 => ?_) (fun w9 => ?_)
    · replace hw := hw.1 w9
      refine r_aload_n (j := 0) d_M_firstPlan_21 rfl ?_
      obtain ⟨q1, hw⟩ := hw
      refine r_getI d_M_firstPlan_22 ok_12 (nle rfl) (nle rfl) rfl lf_M_247 q1 ?_
      refine r_if_ne d_M_firstPlan_25 (fun w9 => ?_) (fun w9 => ?_)
      · replace hw := hw.2 w9
        refine r_aload_n (j := 0) d_M_firstPlan_38 rfl ?_
        refine r_getR d_M_firstPlan_39 ok_12 (nle rfl) (nle rfl) rfl lf_M_36 q1 ?_
        refine r_iconst d_M_firstPlan_42 kc_0 ?_
        refine r_iload_n (j := 1) d_M_firstPlan_43 rfl ?_
        obtain ⟨q2, hw⟩ := hw
        obtain ⟨q3, hw⟩ := hw
        refine r_iast d_M_firstPlan_44 q2 q3 ?_
        refine r_iconst d_M_firstPlan_45 kc_1 ?_
        exact r_zreturn d_M_firstPlan_46.1 rfl (Or.inr rfl) (hQ _ _ hw)
      · replace hw := hw.1 w9
        refine r_iload_n (j := 1) d_M_firstPlan_28 rfl ?_
        refine r_if_ne d_M_firstPlan_29 (fun w9 => ?_) (fun w9 => ?_)
        · replace hw := hw.2 w9
          refine r_iconst d_M_firstPlan_36 kc_0 ?_
          exact r_zreturn d_M_firstPlan_37.1 rfl (Or.inl rfl) (hQ _ _ hw)
        · replace hw := hw.1 w9
          refine r_iconst d_M_firstPlan_32 kc_1 ?_
          refine r_goto d_M_firstPlan_33 ?_
          exact r_zreturn d_M_firstPlan_37.1 rfl (Or.inr rfl) (hQ _ _ hw)
    · replace hw := hw.2 w9
      refine r_aload_n (j := 0) d_M_firstPlan_8 rfl ?_
      obtain ⟨q4, hw⟩ := hw
      refine r_getR d_M_firstPlan_9 ok_12 (nle rfl) (nle rfl) rfl lf_M_36 q4 ?_
      refine r_iload_n (j := 2) d_M_firstPlan_12 rfl ?_
      refine r_iconst d_M_firstPlan_13 kc_0 ?_
      obtain ⟨q5, hw⟩ := hw
      obtain ⟨q6, hw⟩ := hw
      refine r_iast d_M_firstPlan_14 q5 q6 ?_
      refine r_iinc (j := 2) (ls2 := [(2, ai (v2 + (1 : Int32))), (0, ar v0), (1, ai v1)]) d_M_firstPlan_15 rfl (congrArg (HAdd.hAdd v2) kc_1) (nle rfl) rfl ?_
      refine r_goto d_M_firstPlan_18 ?_
      refine r_pick (ls2 := [(0, ar v0), (1, ai v1), (2, ai (v2 + (1 : Int32)))]) [1, 2, 0] rfl ?_
      exact ih _ _ hw
set_option maxRecDepth 100000 in
set_option maxHeartbeats 4000000 in
theorem s_M_firstPlan {d : Nat} {v0 : Nat} {v1 : Int32} {h : Hp} {Q : Bool → Hp → Prop} {QQ : Option AV → Hp → Prop} (hw : w_M_firstPlan v0 v1 h Q) (hQ : ∀ r9 h9, Q r9 h9 → QQ (some (ai (b2i r9))) h9) : aCall m_M_firstPlan d [ar v0, ai v1] h 0 0 QQ := by
  refine aCall_in pl_M_firstPlan (nle rfl) ?_
  show aW none m_M_firstPlan d 0 [(0, ar v0), (1, ai v1)] [] h 0 0 QQ
  unfold w_M_firstPlan at hw
  refine r_iconst d_M_firstPlan_0 kc_0 ?_
  refine r_istore_n (ls2 := [(2, ai (0 : Int32)), (0, ar v0), (1, ai v1)]) d_M_firstPlan_1 (nle rfl) rfl ?_
  obtain ⟨n7, hw⟩ := hw
  refine r_pick (ls2 := [(0, ar v0), (1, ai v1), (2, ai (0 : Int32))]) [1, 2, 0] rfl ?_
  exact s_M_firstPlan_L2 hQ  n7 _ _ hw
set_option maxRecDepth 100000 in
set_option maxHeartbeats 4000000 in
theorem s_M_nextPlan_B51 {d : Nat} {Q : Bool → Hp → Prop} {QQ : Option AV → Hp → Prop} (hQ : ∀ r9 h9, Q r9 h9 → QQ (some (ai (b2i r9))) h9) {v0 : Nat} {v2 : Int32} {v3 : Int32} {h : Hp} (hw : w_M_nextPlan_B51 Q  v0 v2 v3 h) : aW none m_M_nextPlan d 51 [(0, ar v0), (2, ai v2), (3, ai v3)] [] h 0 0 QQ := by
  unfold w_M_nextPlan_B51 at hw
  refine r_iload_n (j := 2) d_M_nextPlan_51 rfl ?_
  refine r_if_ge d_M_nextPlan_52 (fun w9 => ?_) (fun w9 => ?_)
  · replace hw := hw.1 w9
    refine r_aload_n (j := 0) d_M_nextPlan_57 rfl ?_
    obtain ⟨q4, hw⟩ := hw
    refine r_getR d_M_nextPlan_58 ok_12 (nle rfl) (nle rfl) rfl lf_M_36 q4 ?_
    refine r_iload_n (j := 2) d_M_nextPlan_61 rfl ?_
    refine r_dup2 d_M_nextPlan_62 rfl rfl ?_
    obtain ⟨q5, hw⟩ := hw
    obtain ⟨q6, hw⟩ := hw
    refine r_iald d_M_nextPlan_63 q5 q6 ?_
    refine r_iconst d_M_nextPlan_64 kc_1 ?_
    refine r_isub d_M_nextPlan_65 ?_
    refine r_iast d_M_nextPlan_66 q5 q6 ?_
    refine r_aload_n (j := 0) d_M_nextPlan_67 rfl ?_
    refine r_getR d_M_nextPlan_68 ok_12 (nle rfl) (nle rfl) rfl lf_M_36 q4 ?_
    refine r_iload_n (j := 2) d_M_nextPlan_71 rfl ?_
    refine r_iconst d_M_nextPlan_72 kc_1 ?_
    refine r_iadd d_M_nextPlan_73 ?_
    refine r_iload_n (j := 1) d_M_nextPlan_74 rfl ?_
    refine r_iconst d_M_nextPlan_75 kc_1 ?_
    refine r_iadd d_M_nextPlan_76 ?_
    obtain ⟨q7, hw⟩ := hw
    refine r_iast d_M_nextPlan_77 q5 q7 ?_
    refine r_iconst d_M_nextPlan_78 kc_1 ?_
    exact r_zreturn d_M_nextPlan_79.1 rfl (Or.inr rfl) (hQ _ _ hw)
  · replace hw := hw.2 w9
    refine r_iconst d_M_nextPlan_55 kc_0 ?_
    exact r_zreturn d_M_nextPlan_56.1 rfl (Or.inl rfl) (hQ _ _ hw)
set_option maxRecDepth 100000 in
set_option maxHeartbeats 4000000 in
theorem s_M_nextPlan_L32 {d : Nat} {Q : Bool → Hp → Prop} {QQ : Option AV → Hp → Prop} (hQ : ∀ r9 h9, Q r9 h9 → QQ (some (ai (b2i r9))) h9) {v0 : Nat} {v2 : Int32} : ∀ (n : Nat) (v3 : Int32) (h : Hp), w_M_nextPlan_L32 Q  v0 v2 n v3 h → aW none m_M_nextPlan d 32 [(0, ar v0), (2, ai v2), (3, ai v3)] [] h 0 0 QQ := by
  intro n
  induction n with
  | zero => intro v3 h hw; exact hw.elim
  | succ n ih =>
    intro v3 h hw
    unfold w_M_nextPlan_L32 at hw
    refine r_iload_n (j := 2) d_M_nextPlan_32 rfl ?_
    refine r_if_lt d_M_nextPlan_33 (fun w9 => ?_) (fun w9 => ?_)
    · replace hw := hw.1 w9
      exact s_M_nextPlan_B51 hQ  hw
    · replace hw := hw.2 w9
      refine r_aload_n (j := 0) d_M_nextPlan_36 rfl ?_
      obtain ⟨q8, hw⟩ := hw
      refine r_getR d_M_nextPlan_37 ok_12 (nle rfl) (nle rfl) rfl lf_M_36 q8 ?_
      refine r_iload_n (j := 2) d_M_nextPlan_40 rfl ?_
      obtain ⟨q9, hw⟩ := hw
      obtain ⟨q10, hw⟩ := hw
      refine r_iald d_M_nextPlan_41 q9 q10 ?_
      refine r_if_ne d_M_nextPlan_42 (fun w9 => ?_) (fun w9 => ?_)
      · replace hw := hw.2 w9
        exact s_M_nextPlan_B51 hQ  hw
      · replace hw := hw.1 w9
        refine r_iinc (j := 2) (ls2 := [(3, ai (v3 + (-1 : Int32))), (0, ar v0), (2, ai v2)]) d_M_nextPlan_45 rfl (congrArg (HAdd.hAdd v3) kc_m1) (nle rfl) rfl ?_
        refine r_goto d_M_nextPlan_48 ?_
        refine r_pick (ls2 := [(0, ar v0), (2, ai v2), (3, ai (v3 + (-1 : Int32)))]) [1, 2, 0] rfl ?_
        exact ih _ _ hw
set_option maxRecDepth 100000 in
set_option maxHeartbeats 4000000 in
theorem s_M_nextPlan {d : Nat} {v0 : Nat} {h : Hp} {Q : Bool → Hp → Prop} {QQ : Option AV → Hp → Prop} (hw : w_M_nextPlan v0 h Q) (hQ : ∀ r9 h9, Q r9 h9 → QQ (some (ai (b2i r9))) h9) : aCall m_M_nextPlan d [ar v0] h 0 0 QQ := by
  refine aCall_in pl_M_nextPlan (nle rfl) ?_
  show aW none m_M_nextPlan d 0 [(0, ar v0)] [] h 0 0 QQ
  unfold w_M_nextPlan at hw
  refine r_aload_n (j := 0) d_M_nextPlan_0 rfl ?_
  obtain ⟨q1, hw⟩ := hw
  refine r_getI d_M_nextPlan_1 ok_12 (nle rfl) (nle rfl) rfl lf_M_247 q1 ?_
  refine r_iconst d_M_nextPlan_4 kc_1 ?_
  refine r_isub d_M_nextPlan_5 ?_
  refine r_istore_n (ls2 := [(1, ai ((gI h v0 18) - (1 : Int32))), (0, ar v0)]) d_M_nextPlan_6 (nle rfl) rfl ?_
  refine r_iload_n (j := 0) d_M_nextPlan_7 rfl ?_
  refine r_iconst d_M_nextPlan_8 kc_1 ?_
  refine r_icmp_ge d_M_nextPlan_9 (fun w9 => ?_) (fun w9 => ?_)
  · replace hw := hw.1 w9
    refine r_aload_n (j := 1) d_M_nextPlan_14 rfl ?_
    refine r_getR d_M_nextPlan_15 ok_12 (nle rfl) (nle rfl) rfl lf_M_36 q1 ?_
    refine r_iload_n (j := 0) d_M_nextPlan_18 rfl ?_
    obtain ⟨q2, hw⟩ := hw
    obtain ⟨q3, hw⟩ := hw
    refine r_iald d_M_nextPlan_19 q2 q3 ?_
    refine r_istore_n (ls2 := [(2, ai (gI h (gR h v0 26) (ix ((gI h v0 18) - (1 : Int32))))), (1, ai ((gI h v0 18) - (1 : Int32))), (0, ar v0)]) d_M_nextPlan_20 (nle rfl) rfl ?_
    refine r_aload_n (j := 2) d_M_nextPlan_21 rfl ?_
    refine r_getR d_M_nextPlan_22 ok_12 (nle rfl) (nle rfl) rfl lf_M_36 q1 ?_
    refine r_iload_n (j := 1) d_M_nextPlan_25 rfl ?_
    refine r_iconst d_M_nextPlan_26 kc_0 ?_
    refine r_iast d_M_nextPlan_27 q2 q3 ?_
    refine r_iload_n (j := 1) d_M_nextPlan_28 rfl ?_
    refine r_iconst d_M_nextPlan_29 kc_1 ?_
    refine r_isub d_M_nextPlan_30 ?_
    refine r_istore_n (ls2 := [(3, ai (((gI h v0 18) - (1 : Int32)) - (1 : Int32))), (2, ai (gI h (gR h v0 26) (ix ((gI h v0 18) - (1 : Int32))))), (1, ai ((gI h v0 18) - (1 : Int32))), (0, ar v0)]) d_M_nextPlan_31 (nle rfl) rfl ?_
    obtain ⟨n11, hw⟩ := hw
    refine r_pick (ls2 := [(0, ar v0), (2, ai (gI h (gR h v0 26) (ix ((gI h v0 18) - (1 : Int32))))), (3, ai (((gI h v0 18) - (1 : Int32)) - (1 : Int32)))]) [3, 1, 0] rfl ?_
    exact s_M_nextPlan_L32 hQ  n11 _ _ hw
  · replace hw := hw.2 w9
    refine r_iconst d_M_nextPlan_12 kc_0 ?_
    exact r_zreturn d_M_nextPlan_13.1 rfl (Or.inl rfl) (hQ _ _ hw)
set_option maxRecDepth 100000 in
set_option maxHeartbeats 4000000 in
theorem s_M_planSum_L4 {d : Nat} (hd : 1 ≤ d + 1) {Q : Int32 → Hp → Prop} {QQ : Option AV → Hp → Prop} (hQ : ∀ r9 h9, Q r9 h9 → QQ (some (ai r9)) h9) {v0 : Nat} {v1 : Int32} : ∀ (n : Nat) (v2 : Int32) (v3 : Int32) (h : Hp), w_M_planSum_L4 Q  v0 v1 n v2 v3 h → aW none m_M_planSum (d + 1) 4 [(0, ar v0), (1, ai v1), (2, ai v2), (3, ai v3)] [] h 0 0 QQ := by
  intro n
  induction n with
  | zero => intro v2 v3 h hw; exact hw.elim
  | succ n ih =>
    intro v2 v3 h hw
    unfold w_M_planSum_L4 at hw
    refine r_iload_n (j := 3) d_M_planSum_4 rfl ?_
    refine r_aload_n (j := 0) d_M_planSum_5 rfl ?_
    obtain ⟨q1, hw⟩ := hw
    refine r_getI d_M_planSum_6 ok_12 (nle rfl) (nle rfl) rfl lf_M_247 q1 ?_
    refine r_icmp_ge d_M_planSum_9 (fun w9 => ?_) (fun w9 => ?_)
    · replace hw := hw.1 w9
      refine r_iload_n (j := 2) d_M_planSum_34 rfl ?_
      exact r_ireturn d_M_planSum_35.1 rfl (hQ _ _ hw)
    · replace hw := hw.2 w9
      refine r_iload_n (j := 2) d_M_planSum_12 rfl ?_
      refine r_aload_n (j := 0) d_M_planSum_13 rfl ?_
      refine r_getR d_M_planSum_14 ok_12 (nle rfl) (nle rfl) rfl lf_M_36 q1 ?_
      refine r_iload_n (j := 3) d_M_planSum_17 rfl ?_
      obtain ⟨q2, hw⟩ := hw
      obtain ⟨q3, hw⟩ := hw
      refine r_iald d_M_planSum_18 q2 q3 ?_
      refine r_aload_n (j := 0) d_M_planSum_19 rfl ?_
      refine r_iload_n (j := 3) d_M_planSum_20 rfl ?_
      refine r_iload_n (j := 1) d_M_planSum_21 rfl ?_
      refine r_callV (av := [ai v3, ai v1]) (rest := [ai (gI h (gR h v0 26) (ix v3)), ai v2]) (ci := 12) d_M_planSum_22 mk_M_numberOf ll_M_274 im_M_numberOf se_M_numberOf rfl (nle rfl) rfl rfl (nle rfl) q1 (s_M_numberOf  hw (fun r5 h4 hw => ?_))
      show aW none m_M_planSum (d + 1) 25 [(0, ar v0), (1, ai v1), (2, ai v2), (3, ai v3)] [ai r5, ai (gI h (gR h v0 26) (ix v3)), ai v2] h4 0 0 QQ
      refine r_imul d_M_planSum_25 ?_
      refine r_iadd d_M_planSum_26 ?_
      refine r_istore_n (ls2 := [(2, ai (v2 + ((gI h (gR h v0 26) (ix v3)) * r5))), (0, ar v0), (1, ai v1), (3, ai v3)]) d_M_planSum_27 (nle rfl) rfl ?_
      refine r_iinc (j := 3) (ls2 := [(3, ai (v3 + (1 : Int32))), (2, ai (v2 + ((gI h (gR h v0 26) (ix v3)) * r5))), (0, ar v0), (1, ai v1)]) d_M_planSum_28 rfl (congrArg (HAdd.hAdd v3) kc_1) (nle rfl) rfl ?_
      refine r_goto d_M_planSum_31 ?_
      refine r_pick (ls2 := [(0, ar v0), (1, ai v1), (2, ai (v2 + ((gI h (gR h v0 26) (ix v3)) * r5))), (3, ai (v3 + (1 : Int32)))]) [2, 3, 1, 0] rfl ?_
      exact ih _ _ _ hw
set_option maxRecDepth 100000 in
set_option maxHeartbeats 4000000 in
theorem s_M_planSum {d : Nat} (hd : 1 ≤ d) {v0 : Nat} {v1 : Int32} {h : Hp} {Q : Int32 → Hp → Prop} {QQ : Option AV → Hp → Prop} (hw : w_M_planSum v0 v1 h Q) (hQ : ∀ r9 h9, Q r9 h9 → QQ (some (ai r9)) h9) : aCall m_M_planSum d [ar v0, ai v1] h 0 0 QQ := by
  obtain ⟨d, rfl⟩ : ∃ d9, d = d9 + 1 := ⟨d - 1, by omega⟩
  refine aCall_in pl_M_planSum (nle rfl) ?_
  show aW none m_M_planSum (d + 1) 0 [(0, ar v0), (1, ai v1)] [] h 0 0 QQ
  unfold w_M_planSum at hw
  refine r_iconst d_M_planSum_0 kc_0 ?_
  refine r_istore_n (ls2 := [(2, ai (0 : Int32)), (0, ar v0), (1, ai v1)]) d_M_planSum_1 (nle rfl) rfl ?_
  refine r_iconst d_M_planSum_2 kc_0 ?_
  refine r_istore_n (ls2 := [(3, ai (0 : Int32)), (2, ai (0 : Int32)), (0, ar v0), (1, ai v1)]) d_M_planSum_3 (nle rfl) rfl ?_
  obtain ⟨n6, hw⟩ := hw
  refine r_pick (ls2 := [(0, ar v0), (1, ai v1), (2, ai (0 : Int32)), (3, ai (0 : Int32))]) [2, 3, 1, 0] rfl ?_
  exact s_M_planSum_L4 hd hQ  n6 _ _ _ hw
set_option maxRecDepth 100000 in
set_option maxHeartbeats 4000000 in
theorem s_M_planGain_L4 {d : Nat} (hd : 1 ≤ d + 1) {Q : Int32 → Hp → Prop} {QQ : Option AV → Hp → Prop} (hQ : ∀ r9 h9, Q r9 h9 → QQ (some (ai r9)) h9) {v0 : Nat} : ∀ (n : Nat) (v1 : Int32) (v2 : Int32) (h : Hp), w_M_planGain_L4 Q  v0 n v1 v2 h → aW none m_M_planGain (d + 1) 4 [(0, ar v0), (1, ai v1), (2, ai v2)] [] h 0 0 QQ := by
  intro n
  induction n with
  | zero => intro v1 v2 h hw; exact hw.elim
  | succ n ih =>
    intro v1 v2 h hw
    unfold w_M_planGain_L4 at hw
    refine r_iload_n (j := 2) d_M_planGain_4 rfl ?_
    refine r_aload_n (j := 0) d_M_planGain_5 rfl ?_
    obtain ⟨q1, hw⟩ := hw
    refine r_getI d_M_planGain_6 ok_12 (nle rfl) (nle rfl) rfl lf_M_247 q1 ?_
    refine r_icmp_ge d_M_planGain_9 (fun w9 => ?_) (fun w9 => ?_)
    · replace hw := hw.1 w9
      refine r_iload_n (j := 1) d_M_planGain_33 rfl ?_
      exact r_ireturn d_M_planGain_34.1 rfl (hQ _ _ hw)
    · replace hw := hw.2 w9
      refine r_iload_n (j := 1) d_M_planGain_12 rfl ?_
      refine r_aload_n (j := 0) d_M_planGain_13 rfl ?_
      refine r_getR d_M_planGain_14 ok_12 (nle rfl) (nle rfl) rfl lf_M_36 q1 ?_
      refine r_iload_n (j := 2) d_M_planGain_17 rfl ?_
      obtain ⟨q2, hw⟩ := hw
      obtain ⟨q3, hw⟩ := hw
      refine r_iald d_M_planGain_18 q2 q3 ?_
      refine r_aload_n (j := 0) d_M_planGain_19 rfl ?_
      refine r_iload_n (j := 2) d_M_planGain_20 rfl ?_
      refine r_callV (av := [ai v2]) (rest := [ai (gI h (gR h v0 26) (ix v2)), ai v1]) (ci := 12) d_M_planGain_21 mk_M_gainOf ll_M_278 im_M_gainOf se_M_gainOf rfl (nle rfl) rfl rfl (nle rfl) q1 (s_M_gainOf  hw (fun r5 h4 hw => ?_))
      show aW none m_M_planGain (d + 1) 24 [(0, ar v0), (1, ai v1), (2, ai v2)] [ai r5, ai (gI h (gR h v0 26) (ix v2)), ai v1] h4 0 0 QQ
      refine r_imul d_M_planGain_24 ?_
      refine r_iadd d_M_planGain_25 ?_
      refine r_istore_n (ls2 := [(1, ai (v1 + ((gI h (gR h v0 26) (ix v2)) * r5))), (0, ar v0), (2, ai v2)]) d_M_planGain_26 (nle rfl) rfl ?_
      refine r_iinc (j := 2) (ls2 := [(2, ai (v2 + (1 : Int32))), (1, ai (v1 + ((gI h (gR h v0 26) (ix v2)) * r5))), (0, ar v0)]) d_M_planGain_27 rfl (congrArg (HAdd.hAdd v2) kc_1) (nle rfl) rfl ?_
      refine r_goto d_M_planGain_30 ?_
      refine r_pick (ls2 := [(0, ar v0), (1, ai (v1 + ((gI h (gR h v0 26) (ix v2)) * r5))), (2, ai (v2 + (1 : Int32)))]) [2, 1, 0] rfl ?_
      exact ih _ _ _ hw
set_option maxRecDepth 100000 in
set_option maxHeartbeats 4000000 in
theorem s_M_planGain {d : Nat} (hd : 1 ≤ d) {v0 : Nat} {h : Hp} {Q : Int32 → Hp → Prop} {QQ : Option AV → Hp → Prop} (hw : w_M_planGain v0 h Q) (hQ : ∀ r9 h9, Q r9 h9 → QQ (some (ai r9)) h9) : aCall m_M_planGain d [ar v0] h 0 0 QQ := by
  obtain ⟨d, rfl⟩ : ∃ d9, d = d9 + 1 := ⟨d - 1, by omega⟩
  refine aCall_in pl_M_planGain (nle rfl) ?_
  show aW none m_M_planGain (d + 1) 0 [(0, ar v0)] [] h 0 0 QQ
  unfold w_M_planGain at hw
  refine r_iconst d_M_planGain_0 kc_0 ?_
  refine r_istore_n (ls2 := [(1, ai (0 : Int32)), (0, ar v0)]) d_M_planGain_1 (nle rfl) rfl ?_
  refine r_iconst d_M_planGain_2 kc_0 ?_
  refine r_istore_n (ls2 := [(2, ai (0 : Int32)), (1, ai (0 : Int32)), (0, ar v0)]) d_M_planGain_3 (nle rfl) rfl ?_
  obtain ⟨n6, hw⟩ := hw
  refine r_pick (ls2 := [(0, ar v0), (1, ai (0 : Int32)), (2, ai (0 : Int32))]) [2, 1, 0] rfl ?_
  exact s_M_planGain_L4 hd hQ  n6 _ _ _ hw
