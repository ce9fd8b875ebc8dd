set_option maxRecDepth 100000 in
set_option maxHeartbeats 4000000 in
theorem s_L_law {L : Nat} {xs : Nat → Int32} {d : Nat} (hd : 65 ≤ d + 1) {h : Hp} {bc bs : Nat} {Q : Bool → Hp → Prop} {QQ : Option AV → Hp → Prop} (hw : w_L_law L xs bc bs h Q) (hQ : ∀ r9 h9, Q r9 h9 → QQ (some (ai (b2i r9))) h9) : aW (some (L, xs)) m_L_law (d + 1) 0 [(0, ar 1)] [] h bc bs QQ := by
  unfold w_L_law at hw
  obtain ⟨q1, hw⟩ := hw
  obtain ⟨b2, t3, u8, u9, hw⟩ := hw
  subst u8 u9
  refine r_new d_L_law_0 ok_11 (nle rfl) ty_11 lk_L_7 in_11 ini_11 refB_n (refL_r q1 refL_n) ?_
  generalize e8 : nw h 11 0 = h4
  generalize e7 : gX h = a5
  replace hw := hw a5 h4 e7.symm e8.symm
  refine r_dup d_L_law_3 rfl ?_
  obtain ⟨q7, hw⟩ := hw
  obtain ⟨q8, hw⟩ := hw
  obtain ⟨q13, hw⟩ := hw
  obtain ⟨b9, t10, m11, m12, u8, u9, hw⟩ := hw
  subst u8 u9
  refine r_callI (av := []) (rest := [ar a5]) d_L_law_4 mk_X_init ll_L_9 im_X_init rfl rfl rfl rfl (nle rfl) (refB_r q7 refB_n) (refL_r q8 refL_n) q13 (s_X_init (by omega) hw (fun h6 hv => ?_))
  replace hw := hv
  clear hv
  show aW (some (L, xs)) m_L_law (d + 1) 7 [(0, ar 1)] [ar a5] h6 b9 t10 QQ
  refine r_astore_n (ls2 := [(1, ar a5), (0, ar 1)]) d_L_law_7 (nle rfl) rfl ?_
  obtain ⟨q14, hw⟩ := hw
  obtain ⟨q15, hw⟩ := hw
  obtain ⟨b16, t17, u8, u9, hw⟩ := hw
  subst u8 u9
  refine r_new d_L_law_8 ok_12 (nle rfl) ty_12 lk_L_10 in_12 ini_12 refB_n (refL_r q15 (refL_r q14 refL_n)) ?_
  generalize e8 : nw h6 12 0 = h18
  generalize e7 : gX h6 = a19
  replace hw := hw a19 h18 e7.symm e8.symm
  refine r_dup d_L_law_11 rfl ?_
  obtain ⟨q21, hw⟩ := hw
  obtain ⟨q22, hw⟩ := hw
  obtain ⟨q23, hw⟩ := hw
  obtain ⟨q28, hw⟩ := hw
  obtain ⟨b24, t25, m26, m27, u8, u9, hw⟩ := hw
  subst u8 u9
  refine r_callI (av := []) (rest := [ar a19]) d_L_law_12 mk_M_init ll_L_12 im_M_init rfl rfl rfl rfl (nle rfl) (refB_r q21 refB_n) (refL_r q23 (refL_r q22 refL_n)) q28 (s_M_init (by omega) hw (fun h20 hv => ?_))
  replace hw := hv
  clear hv
  show aW (some (L, xs)) m_L_law (d + 1) 15 [(1, ar a5), (0, ar 1)] [ar a19] h20 b24 t25 QQ
  refine r_astore_n (ls2 := [(2, ar a19), (1, ar a5), (0, ar 1)]) d_L_law_15 (nle rfl) rfl ?_
  refine r_iconst d_L_law_16 kc_0 ?_
  refine r_istore_n (ls2 := [(3, ai (0 : Int32)), (2, ar a19), (1, ar a5), (0, ar 1)]) d_L_law_17 (nle rfl) rfl ?_
  obtain ⟨n479, hw⟩ := hw
  refine r_pick (ls2 := [(0, ar 1), (1, ar a5), (2, ar a19), (3, ai (0 : Int32))]) [3, 2, 1, 0] rfl ?_
  exact s_L_law_L18 hd hQ  n479 _ _ _ _ hw
