set_option maxRecDepth 100000 in
set_option maxHeartbeats 4000000 in
theorem s_L_law_B647 {L : Nat} {xs : Nat → Int32} {d : Nat} (hd : 65 ≤ d + 1) {Q : Bool → Hp → Prop} {QQ : Option AV → Hp → Prop} (hQ : ∀ r9 h9, Q r9 h9 → QQ (some (ai (b2i r9))) h9) {v1 : Nat} {v2 : Nat} {v3 : Int32} {bc : Nat} {bs : Nat} {h : Hp} {k18 : Int32 → Nat → Nat → Hp → Prop} (hk18 : ∀ v3 bc bs h9, k18 v3 bc bs h9 → aW (some (L, xs)) m_L_law (d + 1) 18 [(0, ar 1), (1, ar v1), (2, ar v2), (3, ai v3)] [] h9 bc bs QQ) (hw : w_L_law_B647 L xs Q k18 v1 v2 v3 bc bs h) : aW (some (L, xs)) m_L_law (d + 1) 647 [(0, ar 1), (1, ar v1), (2, ar v2), (3, ai v3)] [] h bc bs QQ := by
  unfold w_L_law_B647 at hw
  refine r_aload_n (j := 1) d_L_law_647 rfl ?_
  refine r_aload_n (j := 0) d_L_law_648 rfl ?_
  refine r_iload_n (j := 3) d_L_law_649 rfl ?_
  refine r_iconst d_L_law_650 kc_1 ?_
  refine r_iadd d_L_law_651 ?_
  obtain ⟨q164, hw⟩ := hw
  refine r_sld rfl d_L_law_652 q164 ?_
  obtain ⟨q167, hw⟩ := hw
  refine r_callV (av := [ai (xs (ix (v3 + (1 : Int32))))]) (rest := []) (ci := 11) d_L_law_653 mk_X_held ll_L_79 im_X_held se_X_held rfl (nle rfl) rfl rfl (nle rfl) q167 (s_X_held (by omega) hw (fun r166 h165 hv => ?_))
  replace hw := hv
  clear hv
  show aW (some (L, xs)) m_L_law (d + 1) 656 [(0, ar 1), (1, ar v1), (2, ar v2), (3, ai v3)] [ai r166] h165 bc bs QQ
  refine r_aload_n (j := 2) d_L_law_656 rfl ?_
  refine r_aload_n (j := 0) d_L_law_657 rfl ?_
  refine r_iload_n (j := 3) d_L_law_658 rfl ?_
  refine r_iconst d_L_law_659 kc_1 ?_
  refine r_iadd d_L_law_660 ?_
  obtain ⟨q168, hw⟩ := hw
  refine r_sld rfl d_L_law_661 q168 ?_
  obtain ⟨q171, hw⟩ := hw
  refine r_callV (av := [ai (xs (ix (v3 + (1 : Int32))))]) (rest := [ai r166]) (ci := 12) d_L_law_662 mk_M_held ll_L_82 im_M_held se_M_held rfl (nle rfl) rfl rfl (nle rfl) q171 (s_M_held (by omega) hw (fun r170 h169 hv => ?_))
  replace hw := hv
  clear hv
  show aW (some (L, xs)) m_L_law (d + 1) 665 [(0, ar 1), (1, ar v1), (2, ar v2), (3, ai v3)] [ai r170, ai r166] h169 bc bs QQ
  refine r_icmp_eq d_L_law_665 (fun w9 => ?_) (fun w9 => ?_)
  · replace hw := hw.1 w9
    exact s_L_law_B1537 hd hQ hk18 hw
  · replace hw := hw.2 w9
    refine r_iconst d_L_law_668 kc_0 ?_
    exact r_zreturn d_L_law_669.1 rfl (Or.inl rfl) (hQ _ _ hw)
set_option maxRecDepth 100000 in
set_option maxHeartbeats 4000000 in
theorem s_L_law_B670 {L : Nat} {xs : Nat → Int32} {d : Nat} (hd : 65 ≤ d + 1) {Q : Bool → Hp → Prop} {QQ : Option AV → Hp → Prop} (hQ : ∀ r9 h9, Q r9 h9 → QQ (some (ai (b2i r9))) h9) {v1 : Nat} {v2 : Nat} {v3 : Int32} {bc : Nat} {bs : Nat} {h : Hp} {k18 : Int32 → Nat → Nat → Hp → Prop} (hk18 : ∀ v3 bc bs h9, k18 v3 bc bs h9 → aW (some (L, xs)) m_L_law (d + 1) 18 [(0, ar 1), (1, ar v1), (2, ar v2), (3, ai v3)] [] h9 bc bs QQ) (hw : w_L_law_B670 L xs Q k18 v1 v2 v3 bc bs h) : aW (some (L, xs)) m_L_law (d + 1) 670 [(0, ar 1), (1, ar v1), (2, ar v2), (3, ai v3)] [] h bc bs QQ := by
  unfold w_L_law_B670 at hw
  refine r_aload_n (j := 1) d_L_law_670 rfl ?_
  refine r_aload_n (j := 0) d_L_law_671 rfl ?_
  refine r_iload_n (j := 3) d_L_law_672 rfl ?_
  refine r_iconst d_L_law_673 kc_1 ?_
  refine r_iadd d_L_law_674 ?_
  obtain ⟨q172, hw⟩ := hw
  refine r_sld rfl d_L_law_675 q172 ?_
  obtain ⟨q175, hw⟩ := hw
  refine r_callV (av := [ai (xs (ix (v3 + (1 : Int32))))]) (rest := []) (ci := 11) d_L_law_676 mk_X_holding ll_L_83 im_X_holding se_X_holding rfl (nle rfl) rfl rfl (nle rfl) q175 (s_X_holding (by omega) hw (fun r174 h173 hv => ?_))
  replace hw := hv
  clear hv
  show aW (some (L, xs)) m_L_law (d + 1) 679 [(0, ar 1), (1, ar v1), (2, ar v2), (3, ai v3)] [ai r174] h173 bc bs QQ
  refine r_aload_n (j := 2) d_L_law_679 rfl ?_
  refine r_aload_n (j := 0) d_L_law_680 rfl ?_
  refine r_iload_n (j := 3) d_L_law_681 rfl ?_
  refine r_iconst d_L_law_682 kc_1 ?_
  refine r_iadd d_L_law_683 ?_
  obtain ⟨q176, hw⟩ := hw
  refine r_sld rfl d_L_law_684 q176 ?_
  obtain ⟨q179, hw⟩ := hw
  refine r_callV (av := [ai (xs (ix (v3 + (1 : Int32))))]) (rest := [ai r174]) (ci := 12) d_L_law_685 mk_M_holding ll_L_86 im_M_holding se_M_holding rfl (nle rfl) rfl rfl (nle rfl) q179 (s_M_holding (by omega) hw (fun r178 h177 hv => ?_))
  replace hw := hv
  clear hv
  show aW (some (L, xs)) m_L_law (d + 1) 688 [(0, ar 1), (1, ar v1), (2, ar v2), (3, ai v3)] [ai r178, ai r174] h177 bc bs QQ
  refine r_icmp_eq d_L_law_688 (fun w9 => ?_) (fun w9 => ?_)
  · replace hw := hw.1 w9
    exact s_L_law_B1537 hd hQ hk18 hw
  · replace hw := hw.2 w9
    refine r_iconst d_L_law_691 kc_0 ?_
    exact r_zreturn d_L_law_692.1 rfl (Or.inl rfl) (hQ _ _ hw)
set_option maxRecDepth 100000 in
set_option maxHeartbeats 4000000 in
theorem s_L_law_B693 {L : Nat} {xs : Nat → Int32} {d : Nat} (hd : 65 ≤ d + 1) {Q : Bool → Hp → Prop} {QQ : Option AV → Hp → Prop} (hQ : ∀ r9 h9, Q r9 h9 → QQ (some (ai (b2i r9))) h9) {v1 : Nat} {v2 : Nat} {v3 : Int32} {bc : Nat} {bs : Nat} {h : Hp} {k18 : Int32 → Nat → Nat → Hp → Prop} (hk18 : ∀ v3 bc bs h9, k18 v3 bc bs h9 → aW (some (L, xs)) m_L_law (d + 1) 18 [(0, ar 1), (1, ar v1), (2, ar v2), (3, ai v3)] [] h9 bc bs QQ) (hw : w_L_law_B693 L xs Q k18 v1 v2 v3 bc bs h) : aW (some (L, xs)) m_L_law (d + 1) 693 [(0, ar 1), (1, ar v1), (2, ar v2), (3, ai v3)] [] h bc bs QQ := by
  unfold w_L_law_B693 at hw
  refine r_aload_n (j := 1) d_L_law_693 rfl ?_
  refine r_aload_n (j := 0) d_L_law_694 rfl ?_
  refine r_iload_n (j := 3) d_L_law_695 rfl ?_
  refine r_iconst d_L_law_696 kc_1 ?_
  refine r_iadd d_L_law_697 ?_
  obtain ⟨q180, hw⟩ := hw
  refine r_sld rfl d_L_law_698 q180 ?_
  refine r_aload_n (j := 0) d_L_law_699 rfl ?_
  refine r_iload_n (j := 3) d_L_law_700 rfl ?_
  refine r_iconst d_L_law_701 kc_2 ?_
  refine r_iadd d_L_law_702 ?_
  obtain ⟨q181, hw⟩ := hw
  refine r_sld rfl d_L_law_703 q181 ?_
  obtain ⟨q184, hw⟩ := hw
  refine r_callV (av := [ai (xs (ix (v3 + (1 : Int32)))), ai (xs (ix (v3 + (2 : Int32))))]) (rest := []) (ci := 11) d_L_law_704 mk_X_exchange ll_L_87 im_X_exchange se_X_exchange rfl (nle rfl) rfl rfl (nle rfl) q184 (s_X_exchange (by omega) hw (fun r183 h182 hv => ?_))
  replace hw := hv
  clear hv
  show aW (some (L, xs)) m_L_law (d + 1) 707 [(0, ar 1), (1, ar v1), (2, ar v2), (3, ai v3)] [ai r183] h182 bc bs QQ
  refine r_aload_n (j := 2) d_L_law_707 rfl ?_
  refine r_aload_n (j := 0) d_L_law_708 rfl ?_
  refine r_iload_n (j := 3) d_L_law_709 rfl ?_
  refine r_iconst d_L_law_710 kc_1 ?_
  refine r_iadd d_L_law_711 ?_
  obtain ⟨q185, hw⟩ := hw
  refine r_sld rfl d_L_law_712 q185 ?_
  refine r_aload_n (j := 0) d_L_law_713 rfl ?_
  refine r_iload_n (j := 3) d_L_law_714 rfl ?_
  refine r_iconst d_L_law_715 kc_2 ?_
  refine r_iadd d_L_law_716 ?_
  obtain ⟨q186, hw⟩ := hw
  refine r_sld rfl d_L_law_717 q186 ?_
  obtain ⟨q189, hw⟩ := hw
  refine r_callV (av := [ai (xs (ix (v3 + (1 : Int32)))), ai (xs (ix (v3 + (2 : Int32))))]) (rest := [ai r183]) (ci := 12) d_L_law_718 mk_M_exchange ll_L_90 im_M_exchange se_M_exchange rfl (nle rfl) rfl rfl (nle rfl) q189 (s_M_exchange (by omega) hw (fun r188 h187 hv => ?_))
  replace hw := hv
  clear hv
  show aW (some (L, xs)) m_L_law (d + 1) 721 [(0, ar 1), (1, ar v1), (2, ar v2), (3, ai v3)] [ai r188, ai r183] h187 bc bs QQ
  refine r_icmp_eq d_L_law_721 (fun w9 => ?_) (fun w9 => ?_)
  · replace hw := hw.1 w9
    exact s_L_law_B1537 hd hQ hk18 hw
  · replace hw := hw.2 w9
    refine r_iconst d_L_law_724 kc_0 ?_
    exact r_zreturn d_L_law_725.1 rfl (Or.inl rfl) (hQ _ _ hw)
set_option maxRecDepth 100000 in
set_option maxHeartbeats 4000000 in
theorem s_L_law_B726 {L : Nat} {xs : Nat → Int32} {d : Nat} (hd : 65 ≤ d + 1) {Q : Bool → Hp → Prop} {QQ : Option AV → Hp → Prop} (hQ : ∀ r9 h9, Q r9 h9 → QQ (some (ai (b2i r9))) h9) {v1 : Nat} {v2 : Nat} {v3 : Int32} {bc : Nat} {bs : Nat} {h : Hp} {k18 : Int32 → Nat → Nat → Hp → Prop} (hk18 : ∀ v3 bc bs h9, k18 v3 bc bs h9 → aW (some (L, xs)) m_L_law (d + 1) 18 [(0, ar 1), (1, ar v1), (2, ar v2), (3, ai v3)] [] h9 bc bs QQ) (hw : w_L_law_B726 L xs Q k18 v1 v2 v3 bc bs h) : aW (some (L, xs)) m_L_law (d + 1) 726 [(0, ar 1), (1, ar v1), (2, ar v2), (3, ai v3)] [] h bc bs QQ := by
  unfold w_L_law_B726 at hw
  refine r_aload_n (j := 1) d_L_law_726 rfl ?_
  refine r_aload_n (j := 0) d_L_law_727 rfl ?_
  refine r_iload_n (j := 3) d_L_law_728 rfl ?_
  refine r_iconst d_L_law_729 kc_1 ?_
  refine r_iadd d_L_law_730 ?_
  obtain ⟨q190, hw⟩ := hw
  refine r_sld rfl d_L_law_731 q190 ?_
  refine r_aload_n (j := 0) d_L_law_732 rfl ?_
  refine r_iload_n (j := 3) d_L_law_733 rfl ?_
  refine r_iconst d_L_law_734 kc_2 ?_
  refine r_iadd d_L_law_735 ?_
  obtain ⟨q191, hw⟩ := hw
  refine r_sld rfl d_L_law_736 q191 ?_
  refine r_aload_n (j := 0) d_L_law_737 rfl ?_
  refine r_iload_n (j := 3) d_L_law_738 rfl ?_
  refine r_iconst d_L_law_739 kc_3 ?_
  refine r_iadd d_L_law_740 ?_
  obtain ⟨q192, hw⟩ := hw
  refine r_sld rfl d_L_law_741 q192 ?_
  obtain ⟨q195, hw⟩ := hw
  obtain ⟨q196, hw⟩ := hw
  obtain ⟨q197, hw⟩ := hw
  obtain ⟨q202, hw⟩ := hw
  obtain ⟨b198, t199, m200, m201, u8, u9, hw⟩ := hw
  subst u8 u9
  refine r_callA (av := [ai (xs (ix (v3 + (1 : Int32)))), ai (xs (ix (v3 + (2 : Int32)))), ai (xs (ix (v3 + (3 : Int32))))]) (rest := []) (ci := 11) d_L_law_742 mk_X_strip ll_L_91 im_X_strip se_X_strip rfl (nle rfl) rfl rfl (nle rfl) refB_n (refL_r q197 (refL_r q196 (refL_r q195 (refL_i refL_n)))) q202 (s_X_strip (by omega) hw (fun r194 h193 hv => ?_))
  replace hw := hv
  clear hv
  show aW (some (L, xs)) m_L_law (d + 1) 745 [(0, ar 1), (1, ar v1), (2, ar v2), (3, ai v3)] [ai r194] h193 b198 t199 QQ
  refine r_aload_n (j := 2) d_L_law_745 rfl ?_
  refine r_aload_n (j := 0) d_L_law_746 rfl ?_
  refine r_iload_n (j := 3) d_L_law_747 rfl ?_
  refine r_iconst d_L_law_748 kc_1 ?_
  refine r_iadd d_L_law_749 ?_
  obtain ⟨q203, hw⟩ := hw
  refine r_sld rfl d_L_law_750 q203 ?_
  refine r_aload_n (j := 0) d_L_law_751 rfl ?_
  refine r_iload_n (j := 3) d_L_law_752 rfl ?_
  refine r_iconst d_L_law_753 kc_2 ?_
  refine r_iadd d_L_law_754 ?_
  obtain ⟨q204, hw⟩ := hw
  refine r_sld rfl d_L_law_755 q204 ?_
  refine r_aload_n (j := 0) d_L_law_756 rfl ?_
  refine r_iload_n (j := 3) d_L_law_757 rfl ?_
  refine r_iconst d_L_law_758 kc_3 ?_
  refine r_iadd d_L_law_759 ?_
  obtain ⟨q205, hw⟩ := hw
  refine r_sld rfl d_L_law_760 q205 ?_
  obtain ⟨q208, hw⟩ := hw
  refine r_callV (av := [ai (xs (ix (v3 + (1 : Int32)))), ai (xs (ix (v3 + (2 : Int32)))), ai (xs (ix (v3 + (3 : Int32))))]) (rest := [ai r194]) (ci := 12) d_L_law_761 mk_M_strip ll_L_94 im_M_strip se_M_strip rfl (nle rfl) rfl rfl (nle rfl) q208 (s_M_strip (by omega) hw (fun r207 h206 hv => ?_))
  replace hw := hv
  clear hv
  show aW (some (L, xs)) m_L_law (d + 1) 764 [(0, ar 1), (1, ar v1), (2, ar v2), (3, ai v3)] [ai r207, ai r194] h206 b198 t199 QQ
  refine r_icmp_eq d_L_law_764 (fun w9 => ?_) (fun w9 => ?_)
  · replace hw := hw.1 w9
    exact s_L_law_B1537 hd hQ hk18 hw
  · replace hw := hw.2 w9
    refine r_iconst d_L_law_767 kc_0 ?_
    exact r_zreturn d_L_law_768.1 rfl (Or.inl rfl) (hQ _ _ hw)
set_option maxRecDepth 100000 in
set_option maxHeartbeats 4000000 in
theorem s_L_law_B769 {L : Nat} {xs : Nat → Int32} {d : Nat} (hd : 65 ≤ d + 1) {Q : Bool → Hp → Prop} {QQ : Option AV → Hp → Prop} (hQ : ∀ r9 h9, Q r9 h9 → QQ (some (ai (b2i r9))) h9) {v1 : Nat} {v2 : Nat} {v3 : Int32} {bc : Nat} {bs : Nat} {h : Hp} {k18 : Int32 → Nat → Nat → Hp → Prop} (hk18 : ∀ v3 bc bs h9, k18 v3 bc bs h9 → aW (some (L, xs)) m_L_law (d + 1) 18 [(0, ar 1), (1, ar v1), (2, ar v2), (3, ai v3)] [] h9 bc bs QQ) (hw : w_L_law_B769 L xs Q k18 v1 v2 v3 bc bs h) : aW (some (L, xs)) m_L_law (d + 1) 769 [(0, ar 1), (1, ar v1), (2, ar v2), (3, ai v3)] [] h bc bs QQ := by
  unfold w_L_law_B769 at hw
  refine r_aload_n (j := 1) d_L_law_769 rfl ?_
  refine r_aload_n (j := 0) d_L_law_770 rfl ?_
  refine r_iload_n (j := 3) d_L_law_771 rfl ?_
  refine r_iconst d_L_law_772 kc_1 ?_
  refine r_iadd d_L_law_773 ?_
  obtain ⟨q209, hw⟩ := hw
  refine r_sld rfl d_L_law_774 q209 ?_
  refine r_aload_n (j := 0) d_L_law_775 rfl ?_
  refine r_iload_n (j := 3) d_L_law_776 rfl ?_
  refine r_iconst d_L_law_777 kc_2 ?_
  refine r_iadd d_L_law_778 ?_
  obtain ⟨q210, hw⟩ := hw
  refine r_sld rfl d_L_law_779 q210 ?_
  obtain ⟨q213, hw⟩ := hw
  obtain ⟨q214, hw⟩ := hw
  obtain ⟨q215, hw⟩ := hw
  obtain ⟨q220, hw⟩ := hw
  obtain ⟨b216, t217, m218, m219, u8, u9, hw⟩ := hw
  subst u8 u9
  refine r_callA (av := [ai (xs (ix (v3 + (1 : Int32)))), ai (xs (ix (v3 + (2 : Int32))))]) (rest := []) (ci := 11) d_L_law_780 mk_X_walks ll_L_95 im_X_walks se_X_walks rfl (nle rfl) rfl rfl (nle rfl) refB_n (refL_r q215 (refL_r q214 (refL_r q213 (refL_i refL_n)))) q220 (s_X_walks (by omega) hw (fun r212 h211 hv => ?_))
  replace hw := hv
  clear hv
  show aW (some (L, xs)) m_L_law (d + 1) 783 [(0, ar 1), (1, ar v1), (2, ar v2), (3, ai v3)] [al r212] h211 b216 t217 QQ
  refine r_aload_n (j := 2) d_L_law_783 rfl ?_
  refine r_aload_n (j := 0) d_L_law_784 rfl ?_
  refine r_iload_n (j := 3) d_L_law_785 rfl ?_
  refine r_iconst d_L_law_786 kc_1 ?_
  refine r_iadd d_L_law_787 ?_
  obtain ⟨q221, hw⟩ := hw
  refine r_sld rfl d_L_law_788 q221 ?_
  refine r_aload_n (j := 0) d_L_law_789 rfl ?_
  refine r_iload_n (j := 3) d_L_law_790 rfl ?_
  refine r_iconst d_L_law_791 kc_2 ?_
  refine r_iadd d_L_law_792 ?_
  obtain ⟨q222, hw⟩ := hw
  refine r_sld rfl d_L_law_793 q222 ?_
  obtain ⟨q225, hw⟩ := hw
  refine r_callV (av := [ai (xs (ix (v3 + (1 : Int32)))), ai (xs (ix (v3 + (2 : Int32))))]) (rest := [al r212]) (ci := 12) d_L_law_794 mk_M_walks ll_L_99 im_M_walks se_M_walks rfl (nle rfl) rfl rfl (nle rfl) q225 (s_M_walks (by omega) hw (fun r224 h223 hv => ?_))
  replace hw := hv
  clear hv
  show aW (some (L, xs)) m_L_law (d + 1) 797 [(0, ar 1), (1, ar v1), (2, ar v2), (3, ai v3)] [al r224, al r212] h223 b216 t217 QQ
  refine r_lcmp d_L_law_797 ?_
  refine r_if_eq d_L_law_798 (fun w9 => ?_) (fun w9 => ?_)
  · replace hw := hw.1 ((lg_cmp_eq _ _).mp w9)
    exact s_L_law_B1537 hd hQ hk18 hw
  · replace hw := hw.2 (fun g9 => w9 ((lg_cmp_eq _ _).mpr g9))
    refine r_iconst d_L_law_801 kc_0 ?_
    exact r_zreturn d_L_law_802.1 rfl (Or.inl rfl) (hQ _ _ hw)
set_option maxRecDepth 100000 in
set_option maxHeartbeats 4000000 in
theorem s_L_law_B803 {L : Nat} {xs : Nat → Int32} {d : Nat} (hd : 65 ≤ d + 1) {Q : Bool → Hp → Prop} {QQ : Option AV → Hp → Prop} (hQ : ∀ r9 h9, Q r9 h9 → QQ (some (ai (b2i r9))) h9) {v1 : Nat} {v2 : Nat} {v3 : Int32} {bc : Nat} {bs : Nat} {h : Hp} {k18 : Int32 → Nat → Nat → Hp → Prop} (hk18 : ∀ v3 bc bs h9, k18 v3 bc bs h9 → aW (some (L, xs)) m_L_law (d + 1) 18 [(0, ar 1), (1, ar v1), (2, ar v2), (3, ai v3)] [] h9 bc bs QQ) (hw : w_L_law_B803 L xs Q k18 v1 v2 v3 bc bs h) : aW (some (L, xs)) m_L_law (d + 1) 803 [(0, ar 1), (1, ar v1), (2, ar v2), (3, ai v3)] [] h bc bs QQ := by
  unfold w_L_law_B803 at hw
  refine r_aload_n (j := 1) d_L_law_803 rfl ?_
  refine r_aload_n (j := 0) d_L_law_804 rfl ?_
  refine r_iload_n (j := 3) d_L_law_805 rfl ?_
  refine r_iconst d_L_law_806 kc_1 ?_
  refine r_iadd d_L_law_807 ?_
  obtain ⟨q226, hw⟩ := hw
  refine r_sld rfl d_L_law_808 q226 ?_
  refine r_aload_n (j := 0) d_L_law_809 rfl ?_
  refine r_iload_n (j := 3) d_L_law_810 rfl ?_
  refine r_iconst d_L_law_811 kc_2 ?_
  refine r_iadd d_L_law_812 ?_
  obtain ⟨q227, hw⟩ := hw
  refine r_sld rfl d_L_law_813 q227 ?_
  obtain ⟨q230, hw⟩ := hw
  obtain ⟨q231, hw⟩ := hw
  obtain ⟨q232, hw⟩ := hw
  obtain ⟨q237, hw⟩ := hw
  obtain ⟨b233, t234, m235, m236, u8, u9, hw⟩ := hw
  subst u8 u9
  refine r_callA (av := [ai (xs (ix (v3 + (1 : Int32)))), ai (xs (ix (v3 + (2 : Int32))))]) (rest := []) (ci := 11) d_L_law_814 mk_X_best ll_L_100 im_X_best se_X_best rfl (nle rfl) rfl rfl (nle rfl) refB_n (refL_r q232 (refL_r q231 (refL_r q230 (refL_i refL_n)))) q237 (s_X_best (by omega) hw (fun r229 h228 hv => ?_))
  replace hw := hv
  clear hv
  show aW (some (L, xs)) m_L_law (d + 1) 817 [(0, ar 1), (1, ar v1), (2, ar v2), (3, ai v3)] [ai r229] h228 b233 t234 QQ
  refine r_aload_n (j := 2) d_L_law_817 rfl ?_
  refine r_aload_n (j := 0) d_L_law_818 rfl ?_
  refine r_iload_n (j := 3) d_L_law_819 rfl ?_
  refine r_iconst d_L_law_820 kc_1 ?_
  refine r_iadd d_L_law_821 ?_
  obtain ⟨q238, hw⟩ := hw
  refine r_sld rfl d_L_law_822 q238 ?_
  refine r_aload_n (j := 0) d_L_law_823 rfl ?_
  refine r_iload_n (j := 3) d_L_law_824 rfl ?_
  refine r_iconst d_L_law_825 kc_2 ?_
  refine r_iadd d_L_law_826 ?_
  obtain ⟨q239, hw⟩ := hw
  refine r_sld rfl d_L_law_827 q239 ?_
  obtain ⟨q242, hw⟩ := hw
  refine r_callV (av := [ai (xs (ix (v3 + (1 : Int32)))), ai (xs (ix (v3 + (2 : Int32))))]) (rest := [ai r229]) (ci := 12) d_L_law_828 mk_M_best ll_L_103 im_M_best se_M_best rfl (nle rfl) rfl rfl (nle rfl) q242 (s_M_best (by omega) hw (fun r241 h240 hv => ?_))
  replace hw := hv
  clear hv
  show aW (some (L, xs)) m_L_law (d + 1) 831 [(0, ar 1), (1, ar v1), (2, ar v2), (3, ai v3)] [ai r241, ai r229] h240 b233 t234 QQ
  refine r_icmp_eq d_L_law_831 (fun w9 => ?_) (fun w9 => ?_)
  · replace hw := hw.1 w9
    exact s_L_law_B1537 hd hQ hk18 hw
  · replace hw := hw.2 w9
    refine r_iconst d_L_law_834 kc_0 ?_
    exact r_zreturn d_L_law_835.1 rfl (Or.inl rfl) (hQ _ _ hw)
set_option maxRecDepth 100000 in
set_option maxHeartbeats 4000000 in
theorem s_L_law_B836 {L : Nat} {xs : Nat → Int32} {d : Nat} (hd : 65 ≤ d + 1) {Q : Bool → Hp → Prop} {QQ : Option AV → Hp → Prop} (hQ : ∀ r9 h9, Q r9 h9 → QQ (some (ai (b2i r9))) h9) {v1 : Nat} {v2 : Nat} {v3 : Int32} {bc : Nat} {bs : Nat} {h : Hp} {k18 : Int32 → Nat → Nat → Hp → Prop} (hk18 : ∀ v3 bc bs h9, k18 v3 bc bs h9 → aW (some (L, xs)) m_L_law (d + 1) 18 [(0, ar 1), (1, ar v1), (2, ar v2), (3, ai v3)] [] h9 bc bs QQ) (hw : w_L_law_B836 L xs Q k18 v1 v2 v3 bc bs h) : aW (some (L, xs)) m_L_law (d + 1) 836 [(0, ar 1), (1, ar v1), (2, ar v2), (3, ai v3)] [] h bc bs QQ := by
  unfold w_L_law_B836 at hw
  refine r_aload_n (j := 1) d_L_law_836 rfl ?_
  refine r_aload_n (j := 0) d_L_law_837 rfl ?_
  refine r_iload_n (j := 3) d_L_law_838 rfl ?_
  refine r_iconst d_L_law_839 kc_1 ?_
  refine r_iadd d_L_law_840 ?_
  obtain ⟨q243, hw⟩ := hw
  refine r_sld rfl d_L_law_841 q243 ?_
  refine r_aload_n (j := 0) d_L_law_842 rfl ?_
  refine r_iload_n (j := 3) d_L_law_843 rfl ?_
  refine r_iconst d_L_law_844 kc_2 ?_
  refine r_iadd d_L_law_845 ?_
  obtain ⟨q244, hw⟩ := hw
  refine r_sld rfl d_L_law_846 q244 ?_
  refine r_aload_n (j := 0) d_L_law_847 rfl ?_
  refine r_iload_n (j := 3) d_L_law_848 rfl ?_
  refine r_iconst d_L_law_849 kc_3 ?_
  refine r_iadd d_L_law_850 ?_
  obtain ⟨q245, hw⟩ := hw
  refine r_sld rfl d_L_law_851 q245 ?_
  obtain ⟨q248, hw⟩ := hw
  obtain ⟨q249, hw⟩ := hw
  obtain ⟨q250, hw⟩ := hw
  obtain ⟨q255, hw⟩ := hw
  obtain ⟨b251, t252, m253, m254, u8, u9, hw⟩ := hw
  subst u8 u9
  refine r_callA (av := [ai (xs (ix (v3 + (1 : Int32)))), ai (xs (ix (v3 + (2 : Int32)))), ai (xs (ix (v3 + (3 : Int32))))]) (rest := []) (ci := 11) d_L_law_852 mk_X_step ll_L_104 im_X_step se_X_step rfl (nle rfl) rfl rfl (nle rfl) refB_n (refL_r q250 (refL_r q249 (refL_r q248 (refL_i refL_n)))) q255 (s_X_step (by omega) hw (fun r247 h246 hv => ?_))
  replace hw := hv
  clear hv
  show aW (some (L, xs)) m_L_law (d + 1) 855 [(0, ar 1), (1, ar v1), (2, ar v2), (3, ai v3)] [ai r247] h246 b251 t252 QQ
  refine r_aload_n (j := 2) d_L_law_855 rfl ?_
  refine r_aload_n (j := 0) d_L_law_856 rfl ?_
  refine r_iload_n (j := 3) d_L_law_857 rfl ?_
  refine r_iconst d_L_law_858 kc_1 ?_
  refine r_iadd d_L_law_859 ?_
  obtain ⟨q256, hw⟩ := hw
  refine r_sld rfl d_L_law_860 q256 ?_
  refine r_aload_n (j := 0) d_L_law_861 rfl ?_
  refine r_iload_n (j := 3) d_L_law_862 rfl ?_
  refine r_iconst d_L_law_863 kc_2 ?_
  refine r_iadd d_L_law_864 ?_
  obtain ⟨q257, hw⟩ := hw
  refine r_sld rfl d_L_law_865 q257 ?_
  refine r_aload_n (j := 0) d_L_law_866 rfl ?_
  refine r_iload_n (j := 3) d_L_law_867 rfl ?_
  refine r_iconst d_L_law_868 kc_3 ?_
  refine r_iadd d_L_law_869 ?_
  obtain ⟨q258, hw⟩ := hw
  refine r_sld rfl d_L_law_870 q258 ?_
  obtain ⟨q261, hw⟩ := hw
  refine r_callV (av := [ai (xs (ix (v3 + (1 : Int32)))), ai (xs (ix (v3 + (2 : Int32)))), ai (xs (ix (v3 + (3 : Int32))))]) (rest := [ai r247]) (ci := 12) d_L_law_871 mk_M_step ll_L_107 im_M_step se_M_step rfl (nle rfl) rfl rfl (nle rfl) q261 (s_M_step (by omega) hw (fun r260 h259 hv => ?_))
  replace hw := hv
  clear hv
  show aW (some (L, xs)) m_L_law (d + 1) 874 [(0, ar 1), (1, ar v1), (2, ar v2), (3, ai v3)] [ai r260, ai r247] h259 b251 t252 QQ
  refine r_icmp_eq d_L_law_874 (fun w9 => ?_) (fun w9 => ?_)
  · replace hw := hw.1 w9
    exact s_L_law_B1537 hd hQ hk18 hw
  · replace hw := hw.2 w9
    refine r_iconst d_L_law_877 kc_0 ?_
    exact r_zreturn d_L_law_878.1 rfl (Or.inl rfl) (hQ _ _ hw)
set_option maxRecDepth 100000 in
set_option maxHeartbeats 4000000 in
theorem s_L_law_B879 {L : Nat} {xs : Nat → Int32} {d : Nat} (hd : 65 ≤ d + 1) {Q : Bool → Hp → Prop} {QQ : Option AV → Hp → Prop} (hQ : ∀ r9 h9, Q r9 h9 → QQ (some (ai (b2i r9))) h9) {v1 : Nat} {v2 : Nat} {v3 : Int32} {bc : Nat} {bs : Nat} {h : Hp} {k18 : Int32 → Nat → Nat → Hp → Prop} (hk18 : ∀ v3 bc bs h9, k18 v3 bc bs h9 → aW (some (L, xs)) m_L_law (d + 1) 18 [(0, ar 1), (1, ar v1), (2, ar v2), (3, ai v3)] [] h9 bc bs QQ) (hw : w_L_law_B879 L xs Q k18 v1 v2 v3 bc bs h) : aW (some (L, xs)) m_L_law (d + 1) 879 [(0, ar 1), (1, ar v1), (2, ar v2), (3, ai v3)] [] h bc bs QQ := by
  unfold w_L_law_B879 at hw
  refine r_aload_n (j := 1) d_L_law_879 rfl ?_
  refine r_aload_n (j := 0) d_L_law_880 rfl ?_
  refine r_iload_n (j := 3) d_L_law_881 rfl ?_
  refine r_iconst d_L_law_882 kc_1 ?_
  refine r_iadd d_L_law_883 ?_
  obtain ⟨q262, hw⟩ := hw
  refine r_sld rfl d_L_law_884 q262 ?_
  obtain ⟨q265, hw⟩ := hw
  obtain ⟨q266, hw⟩ := hw
  obtain ⟨q267, hw⟩ := hw
  obtain ⟨q272, hw⟩ := hw
  obtain ⟨b268, t269, m270, m271, u8, u9, hw⟩ := hw
  subst u8 u9
  refine r_callA (av := [ai (xs (ix (v3 + (1 : Int32))))]) (rest := []) (ci := 11) d_L_law_885 mk_X_narrow ll_L_108 im_X_narrow se_X_narrow rfl (nle rfl) rfl rfl (nle rfl) refB_n (refL_r q267 (refL_r q266 (refL_r q265 (refL_i refL_n)))) q272 (s_X_narrow (by omega) hw (fun r264 h263 hv => ?_))
  replace hw := hv
  clear hv
  show aW (some (L, xs)) m_L_law (d + 1) 888 [(0, ar 1), (1, ar v1), (2, ar v2), (3, ai v3)] [ai r264] h263 b268 t269 QQ
  refine r_aload_n (j := 2) d_L_law_888 rfl ?_
  refine r_aload_n (j := 0) d_L_law_889 rfl ?_
  refine r_iload_n (j := 3) d_L_law_890 rfl ?_
  refine r_iconst d_L_law_891 kc_1 ?_
  refine r_iadd d_L_law_892 ?_
  obtain ⟨q273, hw⟩ := hw
  refine r_sld rfl d_L_law_893 q273 ?_
  obtain ⟨q276, hw⟩ := hw
  refine r_callV (av := [ai (xs (ix (v3 + (1 : Int32))))]) (rest := [ai r264]) (ci := 12) d_L_law_894 mk_M_narrow ll_L_111 im_M_narrow se_M_narrow rfl (nle rfl) rfl rfl (nle rfl) q276 (s_M_narrow (by omega) hw (fun r275 h274 hv => ?_))
  replace hw := hv
  clear hv
  show aW (some (L, xs)) m_L_law (d + 1) 897 [(0, ar 1), (1, ar v1), (2, ar v2), (3, ai v3)] [ai r275, ai r264] h274 b268 t269 QQ
  refine r_icmp_eq d_L_law_897 (fun w9 => ?_) (fun w9 => ?_)
  · replace hw := hw.1 w9
    exact s_L_law_B1537 hd hQ hk18 hw
  · replace hw := hw.2 w9
    refine r_iconst d_L_law_900 kc_0 ?_
    exact r_zreturn d_L_law_901.1 rfl (Or.inl rfl) (hQ _ _ hw)
set_option maxRecDepth 100000 in
set_option maxHeartbeats 4000000 in
theorem s_L_law_B902 {L : Nat} {xs : Nat → Int32} {d : Nat} (hd : 65 ≤ d + 1) {Q : Bool → Hp → Prop} {QQ : Option AV → Hp → Prop} (hQ : ∀ r9 h9, Q r9 h9 → QQ (some (ai (b2i r9))) h9) {v1 : Nat} {v2 : Nat} {v3 : Int32} {bc : Nat} {bs : Nat} {h : Hp} {k18 : Int32 → Nat → Nat → Hp → Prop} (hk18 : ∀ v3 bc bs h9, k18 v3 bc bs h9 → aW (some (L, xs)) m_L_law (d + 1) 18 [(0, ar 1), (1, ar v1), (2, ar v2), (3, ai v3)] [] h9 bc bs QQ) (hw : w_L_law_B902 L xs Q k18 v1 v2 v3 bc bs h) : aW (some (L, xs)) m_L_law (d + 1) 902 [(0, ar 1), (1, ar v1), (2, ar v2), (3, ai v3)] [] h bc bs QQ := by
  unfold w_L_law_B902 at hw
  refine r_aload_n (j := 1) d_L_law_902 rfl ?_
  obtain ⟨q279, hw⟩ := hw
  refine r_callV (av := []) (rest := []) (ci := 11) d_L_law_903 mk_X_fewest ll_L_112 im_X_fewest se_X_fewest rfl (nle rfl) rfl rfl (nle rfl) q279 (s_X_fewest (by omega) hw (fun r278 h277 hv => ?_))
  replace hw := hv
  clear hv
  show aW (some (L, xs)) m_L_law (d + 1) 906 [(0, ar 1), (1, ar v1), (2, ar v2), (3, ai v3)] [ai r278] h277 bc bs QQ
  refine r_aload_n (j := 2) d_L_law_906 rfl ?_
  obtain ⟨q282, hw⟩ := hw
  refine r_callV (av := []) (rest := [ai r278]) (ci := 12) d_L_law_907 mk_M_fewest ll_L_115 im_M_fewest se_M_fewest rfl (nle rfl) rfl rfl (nle rfl) q282 (s_M_fewest (by omega) hw (fun r281 h280 hv => ?_))
  replace hw := hv
  clear hv
  show aW (some (L, xs)) m_L_law (d + 1) 910 [(0, ar 1), (1, ar v1), (2, ar v2), (3, ai v3)] [ai r281, ai r278] h280 bc bs QQ
  refine r_icmp_eq d_L_law_910 (fun w9 => ?_) (fun w9 => ?_)
  · replace hw := hw.1 w9
    exact s_L_law_B1537 hd hQ hk18 hw
  · replace hw := hw.2 w9
    refine r_iconst d_L_law_913 kc_0 ?_
    exact r_zreturn d_L_law_914.1 rfl (Or.inl rfl) (hQ _ _ hw)
set_option maxRecDepth 100000 in
set_option maxHeartbeats 4000000 in
theorem s_L_law_B915 {L : Nat} {xs : Nat → Int32} {d : Nat} (hd : 65 ≤ d + 1) {Q : Bool → Hp → Prop} {QQ : Option AV → Hp → Prop} (hQ : ∀ r9 h9, Q r9 h9 → QQ (some (ai (b2i r9))) h9) {v1 : Nat} {v2 : Nat} {v3 : Int32} {bc : Nat} {bs : Nat} {h : Hp} {k18 : Int32 → Nat → Nat → Hp → Prop} (hk18 : ∀ v3 bc bs h9, k18 v3 bc bs h9 → aW (some (L, xs)) m_L_law (d + 1) 18 [(0, ar 1), (1, ar v1), (2, ar v2), (3, ai v3)] [] h9 bc bs QQ) (hw : w_L_law_B915 L xs Q k18 v1 v2 v3 bc bs h) : aW (some (L, xs)) m_L_law (d + 1) 915 [(0, ar 1), (1, ar v1), (2, ar v2), (3, ai v3)] [] h bc bs QQ := by
  unfold w_L_law_B915 at hw
  refine r_aload_n (j := 1) d_L_law_915 rfl ?_
  refine r_aload_n (j := 0) d_L_law_916 rfl ?_
  refine r_iload_n (j := 3) d_L_law_917 rfl ?_
  refine r_iconst d_L_law_918 kc_1 ?_
  refine r_iadd d_L_law_919 ?_
  obtain ⟨q283, hw⟩ := hw
  refine r_sld rfl d_L_law_920 q283 ?_
  obtain ⟨q286, hw⟩ := hw
  refine r_callV (av := [ai (xs (ix (v3 + (1 : Int32))))]) (rest := []) (ci := 11) d_L_law_921 mk_X_optimum ll_L_116 im_X_optimum se_X_optimum rfl (nle rfl) rfl rfl (nle rfl) q286 (s_X_optimum (by omega) hw (fun r285 h284 hv => ?_))
  replace hw := hv
  clear hv
  show aW (some (L, xs)) m_L_law (d + 1) 924 [(0, ar 1), (1, ar v1), (2, ar v2), (3, ai v3)] [ai r285] h284 bc bs QQ
  refine r_aload_n (j := 2) d_L_law_924 rfl ?_
  refine r_aload_n (j := 0) d_L_law_925 rfl ?_
  refine r_iload_n (j := 3) d_L_law_926 rfl ?_
  refine r_iconst d_L_law_927 kc_1 ?_
  refine r_iadd d_L_law_928 ?_
  obtain ⟨q287, hw⟩ := hw
  refine r_sld rfl d_L_law_929 q287 ?_
  obtain ⟨q290, hw⟩ := hw
  refine r_callV (av := [ai (xs (ix (v3 + (1 : Int32))))]) (rest := [ai r285]) (ci := 12) d_L_law_930 mk_M_optimum ll_L_119 im_M_optimum se_M_optimum rfl (nle rfl) rfl rfl (nle rfl) q290 (s_M_optimum (by omega) hw (fun r289 h288 hv => ?_))
  replace hw := hv
  clear hv
  show aW (some (L, xs)) m_L_law (d + 1) 933 [(0, ar 1), (1, ar v1), (2, ar v2), (3, ai v3)] [ai r289, ai r285] h288 bc bs QQ
  refine r_icmp_eq d_L_law_933 (fun w9 => ?_) (fun w9 => ?_)
  · replace hw := hw.1 w9
    exact s_L_law_B1537 hd hQ hk18 hw
  · replace hw := hw.2 w9
    refine r_iconst d_L_law_936 kc_0 ?_
    exact r_zreturn d_L_law_937.1 rfl (Or.inl rfl) (hQ _ _ hw)
set_option maxRecDepth 100000 in
set_option maxHeartbeats 4000000 in
theorem s_L_law_B938 {L : Nat} {xs : Nat → Int32} {d : Nat} (hd : 65 ≤ d + 1) {Q : Bool → Hp → Prop} {QQ : Option AV → Hp → Prop} (hQ : ∀ r9 h9, Q r9 h9 → QQ (some (ai (b2i r9))) h9) {v1 : Nat} {v2 : Nat} {v3 : Int32} {bc : Nat} {bs : Nat} {h : Hp} {k18 : Int32 → Nat → Nat → Hp → Prop} (hk18 : ∀ v3 bc bs h9, k18 v3 bc bs h9 → aW (some (L, xs)) m_L_law (d + 1) 18 [(0, ar 1), (1, ar v1), (2, ar v2), (3, ai v3)] [] h9 bc bs QQ) (hw : w_L_law_B938 L xs Q k18 v1 v2 v3 bc bs h) : aW (some (L, xs)) m_L_law (d + 1) 938 [(0, ar 1), (1, ar v1), (2, ar v2), (3, ai v3)] [] h bc bs QQ := by
  unfold w_L_law_B938 at hw
  refine r_aload_n (j := 1) d_L_law_938 rfl ?_
  refine r_aload_n (j := 0) d_L_law_939 rfl ?_
  refine r_iload_n (j := 3) d_L_law_940 rfl ?_
  refine r_iconst d_L_law_941 kc_1 ?_
  refine r_iadd d_L_law_942 ?_
  obtain ⟨q291, hw⟩ := hw
  refine r_sld rfl d_L_law_943 q291 ?_
  obtain ⟨q294, hw⟩ := hw
  refine r_callV (av := [ai (xs (ix (v3 + (1 : Int32))))]) (rest := []) (ci := 11) d_L_law_944 mk_X_plan ll_L_120 im_X_plan se_X_plan rfl (nle rfl) rfl rfl (nle rfl) q294 (s_X_plan (by omega) hw (fun r293 h292 hv => ?_))
  replace hw := hv
  clear hv
  show aW (some (L, xs)) m_L_law (d + 1) 947 [(0, ar 1), (1, ar v1), (2, ar v2), (3, ai v3)] [ai r293] h292 bc bs QQ
  refine r_aload_n (j := 2) d_L_law_947 rfl ?_
  refine r_aload_n (j := 0) d_L_law_948 rfl ?_
  refine r_iload_n (j := 3) d_L_law_949 rfl ?_
  refine r_iconst d_L_law_950 kc_1 ?_
  refine r_iadd d_L_law_951 ?_
  obtain ⟨q295, hw⟩ := hw
  refine r_sld rfl d_L_law_952 q295 ?_
  obtain ⟨q298, hw⟩ := hw
  refine r_callV (av := [ai (xs (ix (v3 + (1 : Int32))))]) (rest := [ai r293]) (ci := 12) d_L_law_953 mk_M_plan ll_L_123 im_M_plan se_M_plan rfl (nle rfl) rfl rfl (nle rfl) q298 (s_M_plan (by omega) hw (fun r297 h296 hv => ?_))
  replace hw := hv
  clear hv
  show aW (some (L, xs)) m_L_law (d + 1) 956 [(0, ar 1), (1, ar v1), (2, ar v2), (3, ai v3)] [ai r297, ai r293] h296 bc bs QQ
  refine r_icmp_eq d_L_law_956 (fun w9 => ?_) (fun w9 => ?_)
  · replace hw := hw.1 w9
    exact s_L_law_B1537 hd hQ hk18 hw
  · replace hw := hw.2 w9
    refine r_iconst d_L_law_959 kc_0 ?_
    exact r_zreturn d_L_law_960.1 rfl (Or.inl rfl) (hQ _ _ hw)
set_option maxRecDepth 100000 in
set_option maxHeartbeats 4000000 in
theorem s_L_law_B961 {L : Nat} {xs : Nat → Int32} {d : Nat} (hd : 65 ≤ d + 1) {Q : Bool → Hp → Prop} {QQ : Option AV → Hp → Prop} (hQ : ∀ r9 h9, Q r9 h9 → QQ (some (ai (b2i r9))) h9) {v1 : Nat} {v2 : Nat} {v3 : Int32} {bc : Nat} {bs : Nat} {h : Hp} {k18 : Int32 → Nat → Nat → Hp → Prop} (hk18 : ∀ v3 bc bs h9, k18 v3 bc bs h9 → aW (some (L, xs)) m_L_law (d + 1) 18 [(0, ar 1), (1, ar v1), (2, ar v2), (3, ai v3)] [] h9 bc bs QQ) (hw : w_L_law_B961 L xs Q k18 v1 v2 v3 bc bs h) : aW (some (L, xs)) m_L_law (d + 1) 961 [(0, ar 1), (1, ar v1), (2, ar v2), (3, ai v3)] [] h bc bs QQ := by
  unfold w_L_law_B961 at hw
  refine r_aload_n (j := 1) d_L_law_961 rfl ?_
  refine r_aload_n (j := 0) d_L_law_962 rfl ?_
  refine r_iload_n (j := 3) d_L_law_963 rfl ?_
  refine r_iconst d_L_law_964 kc_1 ?_
  refine r_iadd d_L_law_965 ?_
  obtain ⟨q299, hw⟩ := hw
  refine r_sld rfl d_L_law_966 q299 ?_
  obtain ⟨q302, hw⟩ := hw
  refine r_callV (av := [ai (xs (ix (v3 + (1 : Int32))))]) (rest := []) (ci := 11) d_L_law_967 mk_X_plans ll_L_124 im_X_plans se_X_plans rfl (nle rfl) rfl rfl (nle rfl) q302 (s_X_plans (by omega) hw (fun r301 h300 hv => ?_))
  replace hw := hv
  clear hv
  show aW (some (L, xs)) m_L_law (d + 1) 970 [(0, ar 1), (1, ar v1), (2, ar v2), (3, ai v3)] [ai r301] h300 bc bs QQ
  refine r_aload_n (j := 2) d_L_law_970 rfl ?_
  refine r_aload_n (j := 0) d_L_law_971 rfl ?_
  refine r_iload_n (j := 3) d_L_law_972 rfl ?_
  refine r_iconst d_L_law_973 kc_1 ?_
  refine r_iadd d_L_law_974 ?_
  obtain ⟨q303, hw⟩ := hw
  refine r_sld rfl d_L_law_975 q303 ?_
  obtain ⟨q306, hw⟩ := hw
  refine r_callV (av := [ai (xs (ix (v3 + (1 : Int32))))]) (rest := [ai r301]) (ci := 12) d_L_law_976 mk_M_plans ll_L_127 im_M_plans se_M_plans rfl (nle rfl) rfl rfl (nle rfl) q306 (s_M_plans (by omega) hw (fun r305 h304 hv => ?_))
  replace hw := hv
  clear hv
  show aW (some (L, xs)) m_L_law (d + 1) 979 [(0, ar 1), (1, ar v1), (2, ar v2), (3, ai v3)] [ai r305, ai r301] h304 bc bs QQ
  refine r_icmp_eq d_L_law_979 (fun w9 => ?_) (fun w9 => ?_)
  · replace hw := hw.1 w9
    exact s_L_law_B1537 hd hQ hk18 hw
  · replace hw := hw.2 w9
    refine r_iconst d_L_law_982 kc_0 ?_
    exact r_zreturn d_L_law_983.1 rfl (Or.inl rfl) (hQ _ _ hw)
set_option maxRecDepth 100000 in
set_option maxHeartbeats 4000000 in
theorem s_L_law_B984 {L : Nat} {xs : Nat → Int32} {d : Nat} (hd : 65 ≤ d + 1) {Q : Bool → Hp → Prop} {QQ : Option AV → Hp → Prop} (hQ : ∀ r9 h9, Q r9 h9 → QQ (some (ai (b2i r9))) h9) {v1 : Nat} {v2 : Nat} {v3 : Int32} {bc : Nat} {bs : Nat} {h : Hp} {k18 : Int32 → Nat → Nat → Hp → Prop} (hk18 : ∀ v3 bc bs h9, k18 v3 bc bs h9 → aW (some (L, xs)) m_L_law (d + 1) 18 [(0, ar 1), (1, ar v1), (2, ar v2), (3, ai v3)] [] h9 bc bs QQ) (hw : w_L_law_B984 L xs Q k18 v1 v2 v3 bc bs h) : aW (some (L, xs)) m_L_law (d + 1) 984 [(0, ar 1), (1, ar v1), (2, ar v2), (3, ai v3)] [] h bc bs QQ := by
  unfold w_L_law_B984 at hw
  refine r_aload_n (j := 1) d_L_law_984 rfl ?_
  refine r_aload_n (j := 0) d_L_law_985 rfl ?_
  refine r_iload_n (j := 3) d_L_law_986 rfl ?_
  refine r_iconst d_L_law_987 kc_1 ?_
  refine r_iadd d_L_law_988 ?_
  obtain ⟨q307, hw⟩ := hw
  refine r_sld rfl d_L_law_989 q307 ?_
  obtain ⟨q310, hw⟩ := hw
  refine r_callV (av := [ai (xs (ix (v3 + (1 : Int32))))]) (rest := []) (ci := 11) d_L_law_990 mk_X_order ll_L_128 im_X_order se_X_order rfl (nle rfl) rfl rfl (nle rfl) q310 (s_X_order (by omega) hw (fun r309 h308 hv => ?_))
  replace hw := hv
  clear hv
  show aW (some (L, xs)) m_L_law (d + 1) 993 [(0, ar 1), (1, ar v1), (2, ar v2), (3, ai v3)] [ai r309] h308 bc bs QQ
  refine r_aload_n (j := 2) d_L_law_993 rfl ?_
  refine r_aload_n (j := 0) d_L_law_994 rfl ?_
  refine r_iload_n (j := 3) d_L_law_995 rfl ?_
  refine r_iconst d_L_law_996 kc_1 ?_
  refine r_iadd d_L_law_997 ?_
  obtain ⟨q311, hw⟩ := hw
  refine r_sld rfl d_L_law_998 q311 ?_
  obtain ⟨q314, hw⟩ := hw
  refine r_callV (av := [ai (xs (ix (v3 + (1 : Int32))))]) (rest := [ai r309]) (ci := 12) d_L_law_999 mk_M_order ll_L_131 im_M_order se_M_order rfl (nle rfl) rfl rfl (nle rfl) q314 (s_M_order (by omega) hw (fun r313 h312 hv => ?_))
  replace hw := hv
  clear hv
  show aW (some (L, xs)) m_L_law (d + 1) 1002 [(0, ar 1), (1, ar v1), (2, ar v2), (3, ai v3)] [ai r313, ai r309] h312 bc bs QQ
  refine r_icmp_eq d_L_law_1002 (fun w9 => ?_) (fun w9 => ?_)
  · replace hw := hw.1 w9
    exact s_L_law_B1537 hd hQ hk18 hw
  · replace hw := hw.2 w9
    refine r_iconst d_L_law_1005 kc_0 ?_
    exact r_zreturn d_L_law_1006.1 rfl (Or.inl rfl) (hQ _ _ hw)
set_option maxRecDepth 100000 in
set_option maxHeartbeats 4000000 in
theorem s_L_law_B1007 {L : Nat} {xs : Nat → Int32} {d : Nat} (hd : 65 ≤ d + 1) {Q : Bool → Hp → Prop} {QQ : Option AV → Hp → Prop} (hQ : ∀ r9 h9, Q r9 h9 → QQ (some (ai (b2i r9))) h9) {v1 : Nat} {v2 : Nat} {v3 : Int32} {bc : Nat} {bs : Nat} {h : Hp} {k18 : Int32 → Nat → Nat → Hp → Prop} (hk18 : ∀ v3 bc bs h9, k18 v3 bc bs h9 → aW (some (L, xs)) m_L_law (d + 1) 18 [(0, ar 1), (1, ar v1), (2, ar v2), (3, ai v3)] [] h9 bc bs QQ) (hw : w_L_law_B1007 L xs Q k18 v1 v2 v3 bc bs h) : aW (some (L, xs)) m_L_law (d + 1) 1007 [(0, ar 1), (1, ar v1), (2, ar v2), (3, ai v3)] [] h bc bs QQ := by
  unfold w_L_law_B1007 at hw
  refine r_aload_n (j := 1) d_L_law_1007 rfl ?_
  obtain ⟨q317, hw⟩ := hw
  refine r_callV (av := []) (rest := []) (ci := 11) d_L_law_1008 mk_X_strays ll_L_132 im_X_strays se_X_strays rfl (nle rfl) rfl rfl (nle rfl) q317 (s_X_strays (by omega) hw (fun r316 h315 hv => ?_))
  replace hw := hv
  clear hv
  show aW (some (L, xs)) m_L_law (d + 1) 1011 [(0, ar 1), (1, ar v1), (2, ar v2), (3, ai v3)] [ai r316] h315 bc bs QQ
  refine r_aload_n (j := 2) d_L_law_1011 rfl ?_
  obtain ⟨q320, hw⟩ := hw
  refine r_callV (av := []) (rest := [ai r316]) (ci := 12) d_L_law_1012 mk_M_strays ll_L_135 im_M_strays se_M_strays rfl (nle rfl) rfl rfl (nle rfl) q320 (s_M_strays (by omega) hw (fun r319 h318 hv => ?_))
  replace hw := hv
  clear hv
  show aW (some (L, xs)) m_L_law (d + 1) 1015 [(0, ar 1), (1, ar v1), (2, ar v2), (3, ai v3)] [ai r319, ai r316] h318 bc bs QQ
  refine r_icmp_eq d_L_law_1015 (fun w9 => ?_) (fun w9 => ?_)
  · replace hw := hw.1 w9
    exact s_L_law_B1537 hd hQ hk18 hw
  · replace hw := hw.2 w9
    refine r_iconst d_L_law_1018 kc_0 ?_
    exact r_zreturn d_L_law_1019.1 rfl (Or.inl rfl) (hQ _ _ hw)
set_option maxRecDepth 100000 in
set_option maxHeartbeats 4000000 in
theorem s_L_law_B1020 {L : Nat} {xs : Nat → Int32} {d : Nat} (hd : 65 ≤ d + 1) {Q : Bool → Hp → Prop} {QQ : Option AV → Hp → Prop} (hQ : ∀ r9 h9, Q r9 h9 → QQ (some (ai (b2i r9))) h9) {v1 : Nat} {v2 : Nat} {v3 : Int32} {bc : Nat} {bs : Nat} {h : Hp} {k18 : Int32 → Nat → Nat → Hp → Prop} (hk18 : ∀ v3 bc bs h9, k18 v3 bc bs h9 → aW (some (L, xs)) m_L_law (d + 1) 18 [(0, ar 1), (1, ar v1), (2, ar v2), (3, ai v3)] [] h9 bc bs QQ) (hw : w_L_law_B1020 L xs Q k18 v1 v2 v3 bc bs h) : aW (some (L, xs)) m_L_law (d + 1) 1020 [(0, ar 1), (1, ar v1), (2, ar v2), (3, ai v3)] [] h bc bs QQ := by
  unfold w_L_law_B1020 at hw
  refine r_aload_n (j := 1) d_L_law_1020 rfl ?_
  obtain ⟨q323, hw⟩ := hw
  refine r_callV (av := []) (rest := []) (ci := 11) d_L_law_1021 mk_X_sorted ll_L_136 im_X_sorted se_X_sorted rfl (nle rfl) rfl rfl (nle rfl) q323 (s_X_sorted (by omega) hw (fun r322 h321 hv => ?_))
  replace hw := hv
  clear hv
  show aW (some (L, xs)) m_L_law (d + 1) 1024 [(0, ar 1), (1, ar v1), (2, ar v2), (3, ai v3)] [ai r322] h321 bc bs QQ
  refine r_aload_n (j := 2) d_L_law_1024 rfl ?_
  obtain ⟨q326, hw⟩ := hw
  refine r_callV (av := []) (rest := [ai r322]) (ci := 12) d_L_law_1025 mk_M_sorted ll_L_139 im_M_sorted se_M_sorted rfl (nle rfl) rfl rfl (nle rfl) q326 (s_M_sorted (by omega) hw (fun r325 h324 hv => ?_))
  replace hw := hv
  clear hv
  show aW (some (L, xs)) m_L_law (d + 1) 1028 [(0, ar 1), (1, ar v1), (2, ar v2), (3, ai v3)] [ai r325, ai r322] h324 bc bs QQ
  refine r_icmp_eq d_L_law_1028 (fun w9 => ?_) (fun w9 => ?_)
  · replace hw := hw.1 w9
    exact s_L_law_B1537 hd hQ hk18 hw
  · replace hw := hw.2 w9
    refine r_iconst d_L_law_1031 kc_0 ?_
    exact r_zreturn d_L_law_1032.1 rfl (Or.inl rfl) (hQ _ _ hw)
set_option maxRecDepth 100000 in
set_option maxHeartbeats 4000000 in
theorem s_L_law_B1033 {L : Nat} {xs : Nat → Int32} {d : Nat} (hd : 65 ≤ d + 1) {Q : Bool → Hp → Prop} {QQ : Option AV → Hp → Prop} (hQ : ∀ r9 h9, Q r9 h9 → QQ (some (ai (b2i r9))) h9) {v1 : Nat} {v2 : Nat} {v3 : Int32} {bc : Nat} {bs : Nat} {h : Hp} {k18 : Int32 → Nat → Nat → Hp → Prop} (hk18 : ∀ v3 bc bs h9, k18 v3 bc bs h9 → aW (some (L, xs)) m_L_law (d + 1) 18 [(0, ar 1), (1, ar v1), (2, ar v2), (3, ai v3)] [] h9 bc bs QQ) (hw : w_L_law_B1033 L xs Q k18 v1 v2 v3 bc bs h) : aW (some (L, xs)) m_L_law (d + 1) 1033 [(0, ar 1), (1, ar v1), (2, ar v2), (3, ai v3)] [] h bc bs QQ := by
  unfold w_L_law_B1033 at hw
  refine r_aload_n (j := 1) d_L_law_1033 rfl ?_
  refine r_aload_n (j := 0) d_L_law_1034 rfl ?_
  refine r_iload_n (j := 3) d_L_law_1035 rfl ?_
  refine r_iconst d_L_law_1036 kc_1 ?_
  refine r_iadd d_L_law_1037 ?_
  obtain ⟨q327, hw⟩ := hw
  refine r_sld rfl d_L_law_1038 q327 ?_
  refine r_aload_n (j := 0) d_L_law_1039 rfl ?_
  refine r_iload_n (j := 3) d_L_law_1040 rfl ?_
  refine r_iconst d_L_law_1041 kc_2 ?_
  refine r_iadd d_L_law_1042 ?_
  obtain ⟨q328, hw⟩ := hw
  refine r_sld rfl d_L_law_1043 q328 ?_
  refine r_aload_n (j := 0) d_L_law_1044 rfl ?_
  refine r_iload_n (j := 3) d_L_law_1045 rfl ?_
  refine r_iconst d_L_law_1046 kc_3 ?_
  refine r_iadd d_L_law_1047 ?_
  obtain ⟨q329, hw⟩ := hw
  refine r_sld rfl d_L_law_1048 q329 ?_
  obtain ⟨q332, hw⟩ := hw
  refine r_callV (av := [ai (xs (ix (v3 + (1 : Int32)))), ai (xs (ix (v3 + (2 : Int32)))), ai (xs (ix (v3 + (3 : Int32))))]) (rest := []) (ci := 11) d_L_law_1049 mk_X_doubled ll_L_140 im_X_doubled se_X_doubled rfl (nle rfl) rfl rfl (nle rfl) q332 (s_X_doubled (by omega) hw (fun r331 h330 hv => ?_))
  replace hw := hv
  clear hv
  show aW (some (L, xs)) m_L_law (d + 1) 1052 [(0, ar 1), (1, ar v1), (2, ar v2), (3, ai v3)] [ai r331] h330 bc bs QQ
  refine r_aload_n (j := 2) d_L_law_1052 rfl ?_
  refine r_aload_n (j := 0) d_L_law_1053 rfl ?_
  refine r_iload_n (j := 3) d_L_law_1054 rfl ?_
  refine r_iconst d_L_law_1055 kc_1 ?_
  refine r_iadd d_L_law_1056 ?_
  obtain ⟨q333, hw⟩ := hw
  refine r_sld rfl d_L_law_1057 q333 ?_
  refine r_aload_n (j := 0) d_L_law_1058 rfl ?_
  refine r_iload_n (j := 3) d_L_law_1059 rfl ?_
  refine r_iconst d_L_law_1060 kc_2 ?_
  refine r_iadd d_L_law_1061 ?_
  obtain ⟨q334, hw⟩ := hw
  refine r_sld rfl d_L_law_1062 q334 ?_
  refine r_aload_n (j := 0) d_L_law_1063 rfl ?_
  refine r_iload_n (j := 3) d_L_law_1064 rfl ?_
  refine r_iconst d_L_law_1065 kc_3 ?_
  refine r_iadd d_L_law_1066 ?_
  obtain ⟨q335, hw⟩ := hw
  refine r_sld rfl d_L_law_1067 q335 ?_
  obtain ⟨q338, hw⟩ := hw
  refine r_callV (av := [ai (xs (ix (v3 + (1 : Int32)))), ai (xs (ix (v3 + (2 : Int32)))), ai (xs (ix (v3 + (3 : Int32))))]) (rest := [ai r331]) (ci := 12) d_L_law_1068 mk_M_doubled ll_L_143 im_M_doubled se_M_doubled rfl (nle rfl) rfl rfl (nle rfl) q338 (s_M_doubled (by omega) hw (fun r337 h336 hv => ?_))
  replace hw := hv
  clear hv
  show aW (some (L, xs)) m_L_law (d + 1) 1071 [(0, ar 1), (1, ar v1), (2, ar v2), (3, ai v3)] [ai r337, ai r331] h336 bc bs QQ
  refine r_icmp_eq d_L_law_1071 (fun w9 => ?_) (fun w9 => ?_)
  · replace hw := hw.1 w9
    exact s_L_law_B1537 hd hQ hk18 hw
  · replace hw := hw.2 w9
    refine r_iconst d_L_law_1074 kc_0 ?_
    exact r_zreturn d_L_law_1075.1 rfl (Or.inl rfl) (hQ _ _ hw)
set_option maxRecDepth 100000 in
set_option maxHeartbeats 4000000 in
theorem s_L_law_B1076 {L : Nat} {xs : Nat → Int32} {d : Nat} (hd : 65 ≤ d + 1) {Q : Bool → Hp → Prop} {QQ : Option AV → Hp → Prop} (hQ : ∀ r9 h9, Q r9 h9 → QQ (some (ai (b2i r9))) h9) {v1 : Nat} {v2 : Nat} {v3 : Int32} {bc : Nat} {bs : Nat} {h : Hp} {k18 : Int32 → Nat → Nat → Hp → Prop} (hk18 : ∀ v3 bc bs h9, k18 v3 bc bs h9 → aW (some (L, xs)) m_L_law (d + 1) 18 [(0, ar 1), (1, ar v1), (2, ar v2), (3, ai v3)] [] h9 bc bs QQ) (hw : w_L_law_B1076 L xs Q k18 v1 v2 v3 bc bs h) : aW (some (L, xs)) m_L_law (d + 1) 1076 [(0, ar 1), (1, ar v1), (2, ar v2), (3, ai v3)] [] h bc bs QQ := by
  unfold w_L_law_B1076 at hw
  refine r_aload_n (j := 1) d_L_law_1076 rfl ?_
  refine r_aload_n (j := 0) d_L_law_1077 rfl ?_
  refine r_iload_n (j := 3) d_L_law_1078 rfl ?_
  refine r_iconst d_L_law_1079 kc_1 ?_
  refine r_iadd d_L_law_1080 ?_
  obtain ⟨q339, hw⟩ := hw
  refine r_sld rfl d_L_law_1081 q339 ?_
  obtain ⟨q342, hw⟩ := hw
  refine r_callV (av := [ai (xs (ix (v3 + (1 : Int32))))]) (rest := []) (ci := 11) d_L_law_1082 mk_X_relaxed ll_L_144 im_X_relaxed se_X_relaxed rfl (nle rfl) rfl rfl (nle rfl) q342 (s_X_relaxed (by omega) hw (fun r341 h340 hv => ?_))
  replace hw := hv
  clear hv
  show aW (some (L, xs)) m_L_law (d + 1) 1085 [(0, ar 1), (1, ar v1), (2, ar v2), (3, ai v3)] [ai r341] h340 bc bs QQ
  refine r_aload_n (j := 2) d_L_law_1085 rfl ?_
  refine r_aload_n (j := 0) d_L_law_1086 rfl ?_
  refine r_iload_n (j := 3) d_L_law_1087 rfl ?_
  refine r_iconst d_L_law_1088 kc_1 ?_
  refine r_iadd d_L_law_1089 ?_
  obtain ⟨q343, hw⟩ := hw
  refine r_sld rfl d_L_law_1090 q343 ?_
  obtain ⟨q346, hw⟩ := hw
  refine r_callV (av := [ai (xs (ix (v3 + (1 : Int32))))]) (rest := [ai r341]) (ci := 12) d_L_law_1091 mk_M_relaxed ll_L_147 im_M_relaxed se_M_relaxed rfl (nle rfl) rfl rfl (nle rfl) q346 (s_M_relaxed (by omega) hw (fun r345 h344 hv => ?_))
  replace hw := hv
  clear hv
  show aW (some (L, xs)) m_L_law (d + 1) 1094 [(0, ar 1), (1, ar v1), (2, ar v2), (3, ai v3)] [ai r345, ai r341] h344 bc bs QQ
  refine r_icmp_eq d_L_law_1094 (fun w9 => ?_) (fun w9 => ?_)
  · replace hw := hw.1 w9
    exact s_L_law_B1537 hd hQ hk18 hw
  · replace hw := hw.2 w9
    refine r_iconst d_L_law_1097 kc_0 ?_
    exact r_zreturn d_L_law_1098.1 rfl (Or.inl rfl) (hQ _ _ hw)
set_option maxRecDepth 100000 in
set_option maxHeartbeats 4000000 in
theorem s_L_law_B1099 {L : Nat} {xs : Nat → Int32} {d : Nat} (hd : 65 ≤ d + 1) {Q : Bool → Hp → Prop} {QQ : Option AV → Hp → Prop} (hQ : ∀ r9 h9, Q r9 h9 → QQ (some (ai (b2i r9))) h9) {v1 : Nat} {v2 : Nat} {v3 : Int32} {bc : Nat} {bs : Nat} {h : Hp} {k18 : Int32 → Nat → Nat → Hp → Prop} (hk18 : ∀ v3 bc bs h9, k18 v3 bc bs h9 → aW (some (L, xs)) m_L_law (d + 1) 18 [(0, ar 1), (1, ar v1), (2, ar v2), (3, ai v3)] [] h9 bc bs QQ) (hw : w_L_law_B1099 L xs Q k18 v1 v2 v3 bc bs h) : aW (some (L, xs)) m_L_law (d + 1) 1099 [(0, ar 1), (1, ar v1), (2, ar v2), (3, ai v3)] [] h bc bs QQ := by
  unfold w_L_law_B1099 at hw
  refine r_aload_n (j := 1) d_L_law_1099 rfl ?_
  refine r_aload_n (j := 0) d_L_law_1100 rfl ?_
  refine r_iload_n (j := 3) d_L_law_1101 rfl ?_
  refine r_iconst d_L_law_1102 kc_1 ?_
  refine r_iadd d_L_law_1103 ?_
  obtain ⟨q347, hw⟩ := hw
  refine r_sld rfl d_L_law_1104 q347 ?_
  refine r_aload_n (j := 0) d_L_law_1105 rfl ?_
  refine r_iload_n (j := 3) d_L_law_1106 rfl ?_
  refine r_iconst d_L_law_1107 kc_2 ?_
  refine r_iadd d_L_law_1108 ?_
  obtain ⟨q348, hw⟩ := hw
  refine r_sld rfl d_L_law_1109 q348 ?_
  obtain ⟨q351, hw⟩ := hw
  refine r_callV (av := [ai (xs (ix (v3 + (1 : Int32)))), ai (xs (ix (v3 + (2 : Int32))))]) (rest := []) (ci := 11) d_L_law_1110 mk_X_fraction ll_L_148 im_X_fraction se_X_fraction rfl (nle rfl) rfl rfl (nle rfl) q351 (s_X_fraction (by omega) hw (fun r350 h349 hv => ?_))
  replace hw := hv
  clear hv
  show aW (some (L, xs)) m_L_law (d + 1) 1113 [(0, ar 1), (1, ar v1), (2, ar v2), (3, ai v3)] [ai r350] h349 bc bs QQ
  refine r_aload_n (j := 2) d_L_law_1113 rfl ?_
  refine r_aload_n (j := 0) d_L_law_1114 rfl ?_
  refine r_iload_n (j := 3) d_L_law_1115 rfl ?_
  refine r_iconst d_L_law_1116 kc_1 ?_
  refine r_iadd d_L_law_1117 ?_
  obtain ⟨q352, hw⟩ := hw
  refine r_sld rfl d_L_law_1118 q352 ?_
  refine r_aload_n (j := 0) d_L_law_1119 rfl ?_
  refine r_iload_n (j := 3) d_L_law_1120 rfl ?_
  refine r_iconst d_L_law_1121 kc_2 ?_
  refine r_iadd d_L_law_1122 ?_
  obtain ⟨q353, hw⟩ := hw
  refine r_sld rfl d_L_law_1123 q353 ?_
  obtain ⟨q356, hw⟩ := hw
  refine r_callV (av := [ai (xs (ix (v3 + (1 : Int32)))), ai (xs (ix (v3 + (2 : Int32))))]) (rest := [ai r350]) (ci := 12) d_L_law_1124 mk_M_fraction ll_L_151 im_M_fraction se_M_fraction rfl (nle rfl) rfl rfl (nle rfl) q356 (s_M_fraction (by omega) hw (fun r355 h354 hv => ?_))
  replace hw := hv
  clear hv
  show aW (some (L, xs)) m_L_law (d + 1) 1127 [(0, ar 1), (1, ar v1), (2, ar v2), (3, ai v3)] [ai r355, ai r350] h354 bc bs QQ
  refine r_icmp_eq d_L_law_1127 (fun w9 => ?_) (fun w9 => ?_)
  · replace hw := hw.1 w9
    exact s_L_law_B1537 hd hQ hk18 hw
  · replace hw := hw.2 w9
    refine r_iconst d_L_law_1130 kc_0 ?_
    exact r_zreturn d_L_law_1131.1 rfl (Or.inl rfl) (hQ _ _ hw)
set_option maxRecDepth 100000 in
set_option maxHeartbeats 4000000 in
theorem s_L_law_B1132 {L : Nat} {xs : Nat → Int32} {d : Nat} (hd : 65 ≤ d + 1) {Q : Bool → Hp → Prop} {QQ : Option AV → Hp → Prop} (hQ : ∀ r9 h9, Q r9 h9 → QQ (some (ai (b2i r9))) h9) {v1 : Nat} {v2 : Nat} {v3 : Int32} {bc : Nat} {bs : Nat} {h : Hp} {k18 : Int32 → Nat → Nat → Hp → Prop} (hk18 : ∀ v3 bc bs h9, k18 v3 bc bs h9 → aW (some (L, xs)) m_L_law (d + 1) 18 [(0, ar 1), (1, ar v1), (2, ar v2), (3, ai v3)] [] h9 bc bs QQ) (hw : w_L_law_B1132 L xs Q k18 v1 v2 v3 bc bs h) : aW (some (L, xs)) m_L_law (d + 1) 1132 [(0, ar 1), (1, ar v1), (2, ar v2), (3, ai v3)] [] h bc bs QQ := by
  unfold w_L_law_B1132 at hw
  refine r_aload_n (j := 1) d_L_law_1132 rfl ?_
  refine r_aload_n (j := 0) d_L_law_1133 rfl ?_
  refine r_iload_n (j := 3) d_L_law_1134 rfl ?_
  refine r_iconst d_L_law_1135 kc_1 ?_
  refine r_iadd d_L_law_1136 ?_
  obtain ⟨q357, hw⟩ := hw
  refine r_sld rfl d_L_law_1137 q357 ?_
  obtain ⟨q360, hw⟩ := hw
  refine r_callV (av := [ai (xs (ix (v3 + (1 : Int32))))]) (rest := []) (ci := 11) d_L_law_1138 mk_X_apart ll_L_152 im_X_apart se_X_apart rfl (nle rfl) rfl rfl (nle rfl) q360 (s_X_apart (by omega) hw (fun r359 h358 hv => ?_))
  replace hw := hv
  clear hv
  show aW (some (L, xs)) m_L_law (d + 1) 1141 [(0, ar 1), (1, ar v1), (2, ar v2), (3, ai v3)] [ai r359] h358 bc bs QQ
  refine r_aload_n (j := 2) d_L_law_1141 rfl ?_
  refine r_aload_n (j := 0) d_L_law_1142 rfl ?_
  refine r_iload_n (j := 3) d_L_law_1143 rfl ?_
  refine r_iconst d_L_law_1144 kc_1 ?_
  refine r_iadd d_L_law_1145 ?_
  obtain ⟨q361, hw⟩ := hw
  refine r_sld rfl d_L_law_1146 q361 ?_
  obtain ⟨q364, hw⟩ := hw
  refine r_callV (av := [ai (xs (ix (v3 + (1 : Int32))))]) (rest := [ai r359]) (ci := 12) d_L_law_1147 mk_M_apart ll_L_155 im_M_apart se_M_apart rfl (nle rfl) rfl rfl (nle rfl) q364 (s_M_apart (by omega) hw (fun r363 h362 hv => ?_))
  replace hw := hv
  clear hv
  show aW (some (L, xs)) m_L_law (d + 1) 1150 [(0, ar 1), (1, ar v1), (2, ar v2), (3, ai v3)] [ai r363, ai r359] h362 bc bs QQ
  refine r_icmp_eq d_L_law_1150 (fun w9 => ?_) (fun w9 => ?_)
  · replace hw := hw.1 w9
    exact s_L_law_B1537 hd hQ hk18 hw
  · replace hw := hw.2 w9
    refine r_iconst d_L_law_1153 kc_0 ?_
    exact r_zreturn d_L_law_1154.1 rfl (Or.inl rfl) (hQ _ _ hw)
set_option maxRecDepth 100000 in
set_option maxHeartbeats 4000000 in
theorem s_L_law_B1155 {L : Nat} {xs : Nat → Int32} {d : Nat} (hd : 65 ≤ d + 1) {Q : Bool → Hp → Prop} {QQ : Option AV → Hp → Prop} (hQ : ∀ r9 h9, Q r9 h9 → QQ (some (ai (b2i r9))) h9) {v1 : Nat} {v2 : Nat} {v3 : Int32} {bc : Nat} {bs : Nat} {h : Hp} {k18 : Int32 → Nat → Nat → Hp → Prop} (hk18 : ∀ v3 bc bs h9, k18 v3 bc bs h9 → aW (some (L, xs)) m_L_law (d + 1) 18 [(0, ar 1), (1, ar v1), (2, ar v2), (3, ai v3)] [] h9 bc bs QQ) (hw : w_L_law_B1155 L xs Q k18 v1 v2 v3 bc bs h) : aW (some (L, xs)) m_L_law (d + 1) 1155 [(0, ar 1), (1, ar v1), (2, ar v2), (3, ai v3)] [] h bc bs QQ := by
  unfold w_L_law_B1155 at hw
  refine r_aload_n (j := 1) d_L_law_1155 rfl ?_
  obtain ⟨q367, hw⟩ := hw
  refine r_callV (av := []) (rest := []) (ci := 11) d_L_law_1156 mk_X_corners ll_L_156 im_X_corners se_X_corners rfl (nle rfl) rfl rfl (nle rfl) q367 (s_X_corners (by omega) hw (fun r366 h365 hv => ?_))
  replace hw := hv
  clear hv
  show aW (some (L, xs)) m_L_law (d + 1) 1159 [(0, ar 1), (1, ar v1), (2, ar v2), (3, ai v3)] [ai r366] h365 bc bs QQ
  refine r_aload_n (j := 2) d_L_law_1159 rfl ?_
  obtain ⟨q370, hw⟩ := hw
  refine r_callV (av := []) (rest := [ai r366]) (ci := 12) d_L_law_1160 mk_M_corners ll_L_159 im_M_corners se_M_corners rfl (nle rfl) rfl rfl (nle rfl) q370 (s_M_corners (by omega) hw (fun r369 h368 hv => ?_))
  replace hw := hv
  clear hv
  show aW (some (L, xs)) m_L_law (d + 1) 1163 [(0, ar 1), (1, ar v1), (2, ar v2), (3, ai v3)] [ai r369, ai r366] h368 bc bs QQ
  refine r_icmp_eq d_L_law_1163 (fun w9 => ?_) (fun w9 => ?_)
  · replace hw := hw.1 w9
    exact s_L_law_B1537 hd hQ hk18 hw
  · replace hw := hw.2 w9
    refine r_iconst d_L_law_1166 kc_0 ?_
    exact r_zreturn d_L_law_1167.1 rfl (Or.inl rfl) (hQ _ _ hw)
set_option maxRecDepth 100000 in
set_option maxHeartbeats 4000000 in
theorem s_L_law_B1168 {L : Nat} {xs : Nat → Int32} {d : Nat} (hd : 65 ≤ d + 1) {Q : Bool → Hp → Prop} {QQ : Option AV → Hp → Prop} (hQ : ∀ r9 h9, Q r9 h9 → QQ (some (ai (b2i r9))) h9) {v1 : Nat} {v2 : Nat} {v3 : Int32} {bc : Nat} {bs : Nat} {h : Hp} {k18 : Int32 → Nat → Nat → Hp → Prop} (hk18 : ∀ v3 bc bs h9, k18 v3 bc bs h9 → aW (some (L, xs)) m_L_law (d + 1) 18 [(0, ar 1), (1, ar v1), (2, ar v2), (3, ai v3)] [] h9 bc bs QQ) (hw : w_L_law_B1168 L xs Q k18 v1 v2 v3 bc bs h) : aW (some (L, xs)) m_L_law (d + 1) 1168 [(0, ar 1), (1, ar v1), (2, ar v2), (3, ai v3)] [] h bc bs QQ := by
  unfold w_L_law_B1168 at hw
  refine r_aload_n (j := 1) d_L_law_1168 rfl ?_
  refine r_aload_n (j := 0) d_L_law_1169 rfl ?_
  refine r_iload_n (j := 3) d_L_law_1170 rfl ?_
  refine r_iconst d_L_law_1171 kc_1 ?_
  refine r_iadd d_L_law_1172 ?_
  obtain ⟨q371, hw⟩ := hw
  refine r_sld rfl d_L_law_1173 q371 ?_
  refine r_aload_n (j := 0) d_L_law_1174 rfl ?_
  refine r_iload_n (j := 3) d_L_law_1175 rfl ?_
  refine r_iconst d_L_law_1176 kc_2 ?_
  refine r_iadd d_L_law_1177 ?_
  obtain ⟨q372, hw⟩ := hw
  refine r_sld rfl d_L_law_1178 q372 ?_
  refine r_aload_n (j := 0) d_L_law_1179 rfl ?_
  refine r_iload_n (j := 3) d_L_law_1180 rfl ?_
  refine r_iconst d_L_law_1181 kc_3 ?_
  refine r_iadd d_L_law_1182 ?_
  obtain ⟨q373, hw⟩ := hw
  refine r_sld rfl d_L_law_1183 q373 ?_
  obtain ⟨q376, hw⟩ := hw
  refine r_callV (av := [ai (xs (ix (v3 + (1 : Int32)))), ai (xs (ix (v3 + (2 : Int32)))), ai (xs (ix (v3 + (3 : Int32))))]) (rest := []) (ci := 11) d_L_law_1184 mk_X_drawn ll_L_160 im_X_drawn se_X_drawn rfl (nle rfl) rfl rfl (nle rfl) q376 (s_X_drawn (by omega) hw (fun r375 h374 hv => ?_))
  replace hw := hv
  clear hv
  show aW (some (L, xs)) m_L_law (d + 1) 1187 [(0, ar 1), (1, ar v1), (2, ar v2), (3, ai v3)] [ai r375] h374 bc bs QQ
  refine r_aload_n (j := 2) d_L_law_1187 rfl ?_
  refine r_aload_n (j := 0) d_L_law_1188 rfl ?_
  refine r_iload_n (j := 3) d_L_law_1189 rfl ?_
  refine r_iconst d_L_law_1190 kc_1 ?_
  refine r_iadd d_L_law_1191 ?_
  obtain ⟨q377, hw⟩ := hw
  refine r_sld rfl d_L_law_1192 q377 ?_
  refine r_aload_n (j := 0) d_L_law_1193 rfl ?_
  refine r_iload_n (j := 3) d_L_law_1194 rfl ?_
  refine r_iconst d_L_law_1195 kc_2 ?_
  refine r_iadd d_L_law_1196 ?_
  obtain ⟨q378, hw⟩ := hw
  refine r_sld rfl d_L_law_1197 q378 ?_
  refine r_aload_n (j := 0) d_L_law_1198 rfl ?_
  refine r_iload_n (j := 3) d_L_law_1199 rfl ?_
  refine r_iconst d_L_law_1200 kc_3 ?_
  refine r_iadd d_L_law_1201 ?_
  obtain ⟨q379, hw⟩ := hw
  refine r_sld rfl d_L_law_1202 q379 ?_
  obtain ⟨q382, hw⟩ := hw
  refine r_callV (av := [ai (xs (ix (v3 + (1 : Int32)))), ai (xs (ix (v3 + (2 : Int32)))), ai (xs (ix (v3 + (3 : Int32))))]) (rest := [ai r375]) (ci := 12) d_L_law_1203 mk_M_drawn ll_L_163 im_M_drawn se_M_drawn rfl (nle rfl) rfl rfl (nle rfl) q382 (s_M_drawn (by omega) hw (fun r381 h380 hv => ?_))
  replace hw := hv
  clear hv
  show aW (some (L, xs)) m_L_law (d + 1) 1206 [(0, ar 1), (1, ar v1), (2, ar v2), (3, ai v3)] [ai r381, ai r375] h380 bc bs QQ
  refine r_icmp_eq d_L_law_1206 (fun w9 => ?_) (fun w9 => ?_)
  · replace hw := hw.1 w9
    exact s_L_law_B1537 hd hQ hk18 hw
  · replace hw := hw.2 w9
    refine r_iconst d_L_law_1209 kc_0 ?_
    exact r_zreturn d_L_law_1210.1 rfl (Or.inl rfl) (hQ _ _ hw)
set_option maxRecDepth 100000 in
set_option maxHeartbeats 4000000 in
theorem s_L_law_B1211 {L : Nat} {xs : Nat → Int32} {d : Nat} (hd : 65 ≤ d + 1) {Q : Bool → Hp → Prop} {QQ : Option AV → Hp → Prop} (hQ : ∀ r9 h9, Q r9 h9 → QQ (some (ai (b2i r9))) h9) {v1 : Nat} {v2 : Nat} {v3 : Int32} {bc : Nat} {bs : Nat} {h : Hp} {k18 : Int32 → Nat → Nat → Hp → Prop} (hk18 : ∀ v3 bc bs h9, k18 v3 bc bs h9 → aW (some (L, xs)) m_L_law (d + 1) 18 [(0, ar 1), (1, ar v1), (2, ar v2), (3, ai v3)] [] h9 bc bs QQ) (hw : w_L_law_B1211 L xs Q k18 v1 v2 v3 bc bs h) : aW (some (L, xs)) m_L_law (d + 1) 1211 [(0, ar 1), (1, ar v1), (2, ar v2), (3, ai v3)] [] h bc bs QQ := by
  unfold w_L_law_B1211 at hw
  refine r_aload_n (j := 1) d_L_law_1211 rfl ?_
  refine r_aload_n (j := 0) d_L_law_1212 rfl ?_
  refine r_iload_n (j := 3) d_L_law_1213 rfl ?_
  refine r_iconst d_L_law_1214 kc_1 ?_
  refine r_iadd d_L_law_1215 ?_
  obtain ⟨q383, hw⟩ := hw
  refine r_sld rfl d_L_law_1216 q383 ?_
  refine r_aload_n (j := 0) d_L_law_1217 rfl ?_
  refine r_iload_n (j := 3) d_L_law_1218 rfl ?_
  refine r_iconst d_L_law_1219 kc_2 ?_
  refine r_iadd d_L_law_1220 ?_
  obtain ⟨q384, hw⟩ := hw
  refine r_sld rfl d_L_law_1221 q384 ?_
  obtain ⟨q387, hw⟩ := hw
  refine r_callV (av := [ai (xs (ix (v3 + (1 : Int32)))), ai (xs (ix (v3 + (2 : Int32))))]) (rest := []) (ci := 11) d_L_law_1222 mk_X_chance ll_L_164 im_X_chance se_X_chance rfl (nle rfl) rfl rfl (nle rfl) q387 (s_X_chance (by omega) hw (fun r386 h385 hv => ?_))
  replace hw := hv
  clear hv
  show aW (some (L, xs)) m_L_law (d + 1) 1225 [(0, ar 1), (1, ar v1), (2, ar v2), (3, ai v3)] [ai r386] h385 bc bs QQ
  refine r_aload_n (j := 2) d_L_law_1225 rfl ?_
  refine r_aload_n (j := 0) d_L_law_1226 rfl ?_
  refine r_iload_n (j := 3) d_L_law_1227 rfl ?_
  refine r_iconst d_L_law_1228 kc_1 ?_
  refine r_iadd d_L_law_1229 ?_
  obtain ⟨q388, hw⟩ := hw
  refine r_sld rfl d_L_law_1230 q388 ?_
  refine r_aload_n (j := 0) d_L_law_1231 rfl ?_
  refine r_iload_n (j := 3) d_L_law_1232 rfl ?_
  refine r_iconst d_L_law_1233 kc_2 ?_
  refine r_iadd d_L_law_1234 ?_
  obtain ⟨q389, hw⟩ := hw
  refine r_sld rfl d_L_law_1235 q389 ?_
  obtain ⟨q392, hw⟩ := hw
  refine r_callV (av := [ai (xs (ix (v3 + (1 : Int32)))), ai (xs (ix (v3 + (2 : Int32))))]) (rest := [ai r386]) (ci := 12) d_L_law_1236 mk_M_chance ll_L_167 im_M_chance se_M_chance rfl (nle rfl) rfl rfl (nle rfl) q392 (s_M_chance (by omega) hw (fun r391 h390 hv => ?_))
  replace hw := hv
  clear hv
  show aW (some (L, xs)) m_L_law (d + 1) 1239 [(0, ar 1), (1, ar v1), (2, ar v2), (3, ai v3)] [ai r391, ai r386] h390 bc bs QQ
  refine r_icmp_eq d_L_law_1239 (fun w9 => ?_) (fun w9 => ?_)
  · replace hw := hw.1 w9
    exact s_L_law_B1537 hd hQ hk18 hw
  · replace hw := hw.2 w9
    refine r_iconst d_L_law_1242 kc_0 ?_
    exact r_zreturn d_L_law_1243.1 rfl (Or.inl rfl) (hQ _ _ hw)
set_option maxRecDepth 100000 in
set_option maxHeartbeats 4000000 in
theorem s_L_law_B1315 {L : Nat} {xs : Nat → Int32} {d : Nat} (hd : 65 ≤ d + 1) {Q : Bool → Hp → Prop} {QQ : Option AV → Hp → Prop} (hQ : ∀ r9 h9, Q r9 h9 → QQ (some (ai (b2i r9))) h9) {v1 : Nat} {v2 : Nat} {v3 : Int32} {s0 : Int32} {s1 : Nat} {s2 : Int32} {s3 : Int32} {s4 : Int32} {s5 : Int32} {s6 : Int32} {bc : Nat} {bs : Nat} {h : Hp} {k18 : Int32 → Nat → Nat → Hp → Prop} (hk18 : ∀ v3 bc bs h9, k18 v3 bc bs h9 → aW (some (L, xs)) m_L_law (d + 1) 18 [(0, ar 1), (1, ar v1), (2, ar v2), (3, ai v3)] [] h9 bc bs QQ) (hw : w_L_law_B1315 L xs Q k18 v1 v2 v3 s0 s1 s2 s3 s4 s5 s6 bc bs h) : aW (some (L, xs)) m_L_law (d + 1) 1315 [(0, ar 1), (1, ar v1), (2, ar v2), (3, ai v3)] [ai s6, ai s5, ai s4, ai s3, ai s2, ar s1, ai s0] h bc bs QQ := by
  unfold w_L_law_B1315 at hw
  obtain ⟨q408, hw⟩ := hw
  refine r_callV (av := [ai s2, ai s3, ai s4, ai s5, ai s6]) (rest := [ai s0]) (ci := 12) d_L_law_1315 mk_M_seen ll_L_172 im_M_seen se_M_seen rfl (nle rfl) rfl rfl (nle rfl) q408 (s_M_seen (by omega) hw (fun r407 h406 hv => ?_))
  replace hw := hv
  clear hv
  show aW (some (L, xs)) m_L_law (d + 1) 1318 [(0, ar 1), (1, ar v1), (2, ar v2), (3, ai v3)] [ai r407, ai s0] h406 bc bs QQ
  refine r_icmp_eq d_L_law_1318 (fun w9 => ?_) (fun w9 => ?_)
  · replace hw := hw.1 w9
    exact s_L_law_B1537 hd hQ hk18 hw
  · replace hw := hw.2 w9
    refine r_iconst d_L_law_1321 kc_0 ?_
    exact r_zreturn d_L_law_1322.1 rfl (Or.inl rfl) (hQ _ _ hw)
set_option maxRecDepth 100000 in
set_option maxHeartbeats 4000000 in
theorem s_L_law_B1278 {L : Nat} {xs : Nat → Int32} {d : Nat} (hd : 65 ≤ d + 1) {Q : Bool → Hp → Prop} {QQ : Option AV → Hp → Prop} (hQ : ∀ r9 h9, Q r9 h9 → QQ (some (ai (b2i r9))) h9) {v1 : Nat} {v2 : Nat} {v3 : Int32} {s0 : Nat} {s1 : Int32} {s2 : Int32} {s3 : Int32} {s4 : Int32} {s5 : Int32} {bc : Nat} {bs : Nat} {h : Hp} {k18 : Int32 → Nat → Nat → Hp → Prop} (hk18 : ∀ v3 bc bs h9, k18 v3 bc bs h9 → aW (some (L, xs)) m_L_law (d + 1) 18 [(0, ar 1), (1, ar v1), (2, ar v2), (3, ai v3)] [] h9 bc bs QQ) (hw : w_L_law_B1278 L xs Q k18 v1 v2 v3 s0 s1 s2 s3 s4 s5 bc bs h) : aW (some (L, xs)) m_L_law (d + 1) 1278 [(0, ar 1), (1, ar v1), (2, ar v2), (3, ai v3)] [ai s5, ai s4, ai s3, ai s2, ai s1, ar s0] h bc bs QQ := by
  unfold w_L_law_B1278 at hw
  obtain ⟨q400, hw⟩ := hw
  refine r_callV (av := [ai s1, ai s2, ai s3, ai s4, ai s5]) (rest := []) (ci := 11) d_L_law_1278 mk_X_seen ll_L_168 im_X_seen se_X_seen rfl (nle rfl) rfl rfl (nle rfl) q400 (s_X_seen (by omega) hw (fun r399 h398 hv => ?_))
  replace hw := hv
  clear hv
  show aW (some (L, xs)) m_L_law (d + 1) 1281 [(0, ar 1), (1, ar v1), (2, ar v2), (3, ai v3)] [ai r399] h398 bc bs QQ
  refine r_aload_n (j := 2) d_L_law_1281 rfl ?_
  refine r_aload_n (j := 0) d_L_law_1282 rfl ?_
  refine r_iload_n (j := 3) d_L_law_1283 rfl ?_
  refine r_iconst d_L_law_1284 kc_1 ?_
  refine r_iadd d_L_law_1285 ?_
  obtain ⟨q401, hw⟩ := hw
  refine r_sld rfl d_L_law_1286 q401 ?_
  refine r_aload_n (j := 0) d_L_law_1287 rfl ?_
  refine r_iload_n (j := 3) d_L_law_1288 rfl ?_
  refine r_iconst d_L_law_1289 kc_2 ?_
  refine r_iadd d_L_law_1290 ?_
  obtain ⟨q402, hw⟩ := hw
  refine r_sld rfl d_L_law_1291 q402 ?_
  refine r_aload_n (j := 0) d_L_law_1292 rfl ?_
  refine r_iload_n (j := 3) d_L_law_1293 rfl ?_
  refine r_iconst d_L_law_1294 kc_3 ?_
  refine r_iadd d_L_law_1295 ?_
  obtain ⟨q403, hw⟩ := hw
  refine r_sld rfl d_L_law_1296 q403 ?_
  refine r_aload_n (j := 0) d_L_law_1297 rfl ?_
  refine r_iload_n (j := 3) d_L_law_1298 rfl ?_
  refine r_iconst d_L_law_1299 kc_4 ?_
  refine r_iadd d_L_law_1300 ?_
  obtain ⟨q404, hw⟩ := hw
  refine r_sld rfl d_L_law_1301 q404 ?_
  refine r_aload_n (j := 0) d_L_law_1302 rfl ?_
  refine r_iload_n (j := 3) d_L_law_1303 rfl ?_
  refine r_iconst d_L_law_1304 kc_5 ?_
  refine r_iadd d_L_law_1305 ?_
  obtain ⟨q405, hw⟩ := hw
  refine r_sld rfl d_L_law_1306 q405 ?_
  refine r_if_eq d_L_law_1307 (fun w9 => ?_) (fun w9 => ?_)
  · replace hw := hw.1 w9
    refine r_iconst d_L_law_1314 kc_0 ?_
    exact s_L_law_B1315 hd hQ hk18 hw
  · replace hw := hw.2 w9
    refine r_iconst d_L_law_1310 kc_1 ?_
    refine r_goto d_L_law_1311 ?_
    exact s_L_law_B1315 hd hQ hk18 hw
set_option maxRecDepth 100000 in
set_option maxHeartbeats 4000000 in
theorem s_L_law_B1244 {L : Nat} {xs : Nat → Int32} {d : Nat} (hd : 65 ≤ d + 1) {Q : Bool → Hp → Prop} {QQ : Option AV → Hp → Prop} (hQ : ∀ r9 h9, Q r9 h9 → QQ (some (ai (b2i r9))) h9) {v1 : Nat} {v2 : Nat} {v3 : Int32} {bc : Nat} {bs : Nat} {h : Hp} {k18 : Int32 → Nat → Nat → Hp → Prop} (hk18 : ∀ v3 bc bs h9, k18 v3 bc bs h9 → aW (some (L, xs)) m_L_law (d + 1) 18 [(0, ar 1), (1, ar v1), (2, ar v2), (3, ai v3)] [] h9 bc bs QQ) (hw : w_L_law_B1244 L xs Q k18 v1 v2 v3 bc bs h) : aW (some (L, xs)) m_L_law (d + 1) 1244 [(0, ar 1), (1, ar v1), (2, ar v2), (3, ai v3)] [] h bc bs QQ := by
  unfold w_L_law_B1244 at hw
  refine r_aload_n (j := 1) d_L_law_1244 rfl ?_
  refine r_aload_n (j := 0) d_L_law_1245 rfl ?_
  refine r_iload_n (j := 3) d_L_law_1246 rfl ?_
  refine r_iconst d_L_law_1247 kc_1 ?_
  refine r_iadd d_L_law_1248 ?_
  obtain ⟨q393, hw⟩ := hw
  refine r_sld rfl d_L_law_1249 q393 ?_
  refine r_aload_n (j := 0) d_L_law_1250 rfl ?_
  refine r_iload_n (j := 3) d_L_law_1251 rfl ?_
  refine r_iconst d_L_law_1252 kc_2 ?_
  refine r_iadd d_L_law_1253 ?_
  obtain ⟨q394, hw⟩ := hw
  refine r_sld rfl d_L_law_1254 q394 ?_
  refine r_aload_n (j := 0) d_L_law_1255 rfl ?_
  refine r_iload_n (j := 3) d_L_law_1256 rfl ?_
  refine r_iconst d_L_law_1257 kc_3 ?_
  refine r_iadd d_L_law_1258 ?_
  obtain ⟨q395, hw⟩ := hw
  refine r_sld rfl d_L_law_1259 q395 ?_
  refine r_aload_n (j := 0) d_L_law_1260 rfl ?_
  refine r_iload_n (j := 3) d_L_law_1261 rfl ?_
  refine r_iconst d_L_law_1262 kc_4 ?_
  refine r_iadd d_L_law_1263 ?_
  obtain ⟨q396, hw⟩ := hw
  refine r_sld rfl d_L_law_1264 q396 ?_
  refine r_aload_n (j := 0) d_L_law_1265 rfl ?_
  refine r_iload_n (j := 3) d_L_law_1266 rfl ?_
  refine r_iconst d_L_law_1267 kc_5 ?_
  refine r_iadd d_L_law_1268 ?_
  obtain ⟨q397, hw⟩ := hw
  refine r_sld rfl d_L_law_1269 q397 ?_
  refine r_if_eq d_L_law_1270 (fun w9 => ?_) (fun w9 => ?_)
  · replace hw := hw.1 w9
    refine r_iconst d_L_law_1277 kc_0 ?_
    exact s_L_law_B1278 hd hQ hk18 hw
  · replace hw := hw.2 w9
    refine r_iconst d_L_law_1273 kc_1 ?_
    refine r_goto d_L_law_1274 ?_
    exact s_L_law_B1278 hd hQ hk18 hw
set_option maxRecDepth 100000 in
set_option maxHeartbeats 4000000 in
theorem s_L_law_B1323 {L : Nat} {xs : Nat → Int32} {d : Nat} (hd : 65 ≤ d + 1) {Q : Bool → Hp → Prop} {QQ : Option AV → Hp → Prop} (hQ : ∀ r9 h9, Q r9 h9 → QQ (some (ai (b2i r9))) h9) {v1 : Nat} {v2 : Nat} {v3 : Int32} {bc : Nat} {bs : Nat} {h : Hp} {k18 : Int32 → Nat → Nat → Hp → Prop} (hk18 : ∀ v3 bc bs h9, k18 v3 bc bs h9 → aW (some (L, xs)) m_L_law (d + 1) 18 [(0, ar 1), (1, ar v1), (2, ar v2), (3, ai v3)] [] h9 bc bs QQ) (hw : w_L_law_B1323 L xs Q k18 v1 v2 v3 bc bs h) : aW (some (L, xs)) m_L_law (d + 1) 1323 [(0, ar 1), (1, ar v1), (2, ar v2), (3, ai v3)] [] h bc bs QQ := by
  unfold w_L_law_B1323 at hw
  refine r_aload_n (j := 1) d_L_law_1323 rfl ?_
  refine r_aload_n (j := 0) d_L_law_1324 rfl ?_
  refine r_iload_n (j := 3) d_L_law_1325 rfl ?_
  refine r_iconst d_L_law_1326 kc_1 ?_
  refine r_iadd d_L_law_1327 ?_
  obtain ⟨q409, hw⟩ := hw
  refine r_sld rfl d_L_law_1328 q409 ?_
  obtain ⟨q412, hw⟩ := hw
  refine r_callV (av := [ai (xs (ix (v3 + (1 : Int32))))]) (rest := []) (ci := 11) d_L_law_1329 mk_X_untell ll_L_173 im_X_untell se_X_untell rfl (nle rfl) rfl rfl (nle rfl) q412 (s_X_untell (by omega) hw (fun r411 h410 hv => ?_))
  replace hw := hv
  clear hv
  show aW (some (L, xs)) m_L_law (d + 1) 1332 [(0, ar 1), (1, ar v1), (2, ar v2), (3, ai v3)] [ai (b2i r411)] h410 bc bs QQ
  refine r_aload_n (j := 2) d_L_law_1332 rfl ?_
  refine r_aload_n (j := 0) d_L_law_1333 rfl ?_
  refine r_iload_n (j := 3) d_L_law_1334 rfl ?_
  refine r_iconst d_L_law_1335 kc_1 ?_
  refine r_iadd d_L_law_1336 ?_
  obtain ⟨q413, hw⟩ := hw
  refine r_sld rfl d_L_law_1337 q413 ?_
  obtain ⟨q416, hw⟩ := hw
  refine r_callV (av := [ai (xs (ix (v3 + (1 : Int32))))]) (rest := [ai (b2i r411)]) (ci := 12) d_L_law_1338 mk_M_untell ll_L_177 im_M_untell se_M_untell rfl (nle rfl) rfl rfl (nle rfl) q416 (s_M_untell (by omega) hw (fun r415 h414 hv => ?_))
  replace hw := hv
  clear hv
  show aW (some (L, xs)) m_L_law (d + 1) 1341 [(0, ar 1), (1, ar v1), (2, ar v2), (3, ai v3)] [ai (b2i r415), ai (b2i r411)] h414 bc bs QQ
  refine r_icmp_eq d_L_law_1341 (fun w9 => ?_) (fun w9 => ?_)
  · replace hw := hw.1 w9
    exact s_L_law_B1537 hd hQ hk18 hw
  · replace hw := hw.2 w9
    refine r_iconst d_L_law_1344 kc_0 ?_
    exact r_zreturn d_L_law_1345.1 rfl (Or.inl rfl) (hQ _ _ hw)
set_option maxRecDepth 100000 in
set_option maxHeartbeats 4000000 in
theorem s_L_law_B1346 {L : Nat} {xs : Nat → Int32} {d : Nat} (hd : 65 ≤ d + 1) {Q : Bool → Hp → Prop} {QQ : Option AV → Hp → Prop} (hQ : ∀ r9 h9, Q r9 h9 → QQ (some (ai (b2i r9))) h9) {v1 : Nat} {v2 : Nat} {v3 : Int32} {bc : Nat} {bs : Nat} {h : Hp} {k18 : Int32 → Nat → Nat → Hp → Prop} (hk18 : ∀ v3 bc bs h9, k18 v3 bc bs h9 → aW (some (L, xs)) m_L_law (d + 1) 18 [(0, ar 1), (1, ar v1), (2, ar v2), (3, ai v3)] [] h9 bc bs QQ) (hw : w_L_law_B1346 L xs Q k18 v1 v2 v3 bc bs h) : aW (some (L, xs)) m_L_law (d + 1) 1346 [(0, ar 1), (1, ar v1), (2, ar v2), (3, ai v3)] [] h bc bs QQ := by
  unfold w_L_law_B1346 at hw
  refine r_aload_n (j := 1) d_L_law_1346 rfl ?_
  refine r_aload_n (j := 0) d_L_law_1347 rfl ?_
  refine r_iload_n (j := 3) d_L_law_1348 rfl ?_
  refine r_iconst d_L_law_1349 kc_1 ?_
  refine r_iadd d_L_law_1350 ?_
  obtain ⟨q417, hw⟩ := hw
  refine r_sld rfl d_L_law_1351 q417 ?_
  obtain ⟨q420, hw⟩ := hw
  refine r_callV (av := [ai (xs (ix (v3 + (1 : Int32))))]) (rest := []) (ci := 11) d_L_law_1352 mk_X_later ll_L_178 im_X_later se_X_later rfl (nle rfl) rfl rfl (nle rfl) q420 (s_X_later  hw (fun r419 h418 hv => ?_))
  replace hw := hv
  clear hv
  show aW (some (L, xs)) m_L_law (d + 1) 1355 [(0, ar 1), (1, ar v1), (2, ar v2), (3, ai v3)] [ai r419] h418 bc bs QQ
  refine r_aload_n (j := 2) d_L_law_1355 rfl ?_
  refine r_aload_n (j := 0) d_L_law_1356 rfl ?_
  refine r_iload_n (j := 3) d_L_law_1357 rfl ?_
  refine r_iconst d_L_law_1358 kc_1 ?_
  refine r_iadd d_L_law_1359 ?_
  obtain ⟨q421, hw⟩ := hw
  refine r_sld rfl d_L_law_1360 q421 ?_
  obtain ⟨q424, hw⟩ := hw
  refine r_callV (av := [ai (xs (ix (v3 + (1 : Int32))))]) (rest := [ai r419]) (ci := 12) d_L_law_1361 mk_M_later ll_L_181 im_M_later se_M_later rfl (nle rfl) rfl rfl (nle rfl) q424 (s_M_later (by omega) hw (fun r423 h422 hv => ?_))
  replace hw := hv
  clear hv
  show aW (some (L, xs)) m_L_law (d + 1) 1364 [(0, ar 1), (1, ar v1), (2, ar v2), (3, ai v3)] [ai r423, ai r419] h422 bc bs QQ
  refine r_icmp_eq d_L_law_1364 (fun w9 => ?_) (fun w9 => ?_)
  · replace hw := hw.1 w9
    exact s_L_law_B1537 hd hQ hk18 hw
  · replace hw := hw.2 w9
    refine r_iconst d_L_law_1367 kc_0 ?_
    exact r_zreturn d_L_law_1368.1 rfl (Or.inl rfl) (hQ _ _ hw)
