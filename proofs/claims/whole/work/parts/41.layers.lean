/-! The reference lays the layers -/
variable {h : Hp}
/-- the keys of the closed layers and of the open one -/
def LK (ly : Nat → List Nat) (l : Nat) (acc : List Nat) (ky L : Nat → Nat) : Prop := (∀ m i, m < l → i < (ly m).length → ky (off ly m + i) = (ly m).getD i 0 ∧ L (off ly m + i) = m) ∧ ∀ i, i < acc.length → ky (off ly l + i) = acc.getD i 0 ∧ L (off ly l + i) = l
def LO (ly : Nat → List Nat) (h h' : Hp) (l : Nat) (acc : List Nat) (e : Nat) : Prop := ∃ fd ky L, Fr [92, 93, 95, 96] [38] [] [] h h' ∧ HS h' (off ly l + acc.length) fd ky ∧ HR (off ly l + acc.length) fd ky L ∧ gI h' 81 38 = nI (off ly l + acc.length) ∧ (∀ m, m ≤ l → gI h' 95 m = nI (off ly m)) ∧ gI h' 95 (l + 1) = nI e ∧ LK ly l acc ky L
theorem LO_fr {ly : Nat → List Nat} {h0 h' : Hp} {l e : Nat} {acc : List Nat} (o : LO ly h0 h l acc e) (f : Fr [92] [] [] [] h h') : LO ly h0 h' l acc e := by
  obtain ⟨fd, ky, L, o1, o2, o3, o4, o5, o6, o7⟩ := o
  refine ⟨fd, ky, L, fr_trans o1 (fr_mono f (by simp) (by simp) (by simp) (by simp)), ?_, o3, ?_, ?_, ?_, o7⟩
  · unfold HS
    rw [fr_I f (x := 96) (by decide) (by decide), fr_I f (x := 93) (by decide) (by decide)]
    exact o2
  · rw [fr_F f (by decide) (by decide)]; exact o4
  · rw [fr_I f (x := 95) (by decide) (by decide)]; exact o5
  · rw [fr_I f (x := 95) (by decide) (by decide)]; exact o6
theorem getD_app {α : Type} (l : List α) (a d : α) (i : Nat) : (l ++ [a]).getD i d = if i = l.length then a else l.getD i d := by
  rw [List.getD_eq_getElem?_getD, List.getD_eq_getElem?_getD]
  by_cases e : i = l.length
  · rw [if_pos e, e, List.getElem?_append_right (Nat.le_refl _), Nat.sub_self]
    rfl
  · rw [if_neg e]
    by_cases g : i < l.length
    · rw [List.getElem?_append_left g]
    · rw [List.getElem?_eq_none (by rw [List.length_append, List.length_singleton]; omega), List.getElem?_eq_none (by omega)]
theorem mem_getD {α : Type} {l : List α} {a d : α} (h : a ∈ l) : ∃ i, i < l.length ∧ l.getD i d = a := by
  obtain ⟨i, hi, e⟩ := List.getElem_of_mem h
  exact ⟨i, hi, by rw [List.getD_eq_getElem?_getD, List.getElem?_eq_getElem hi]; exact e⟩
theorem LO_comes {ly : Nat → List Nat} {h0 : Hp} {l r n : Nat} {acc : List Nat} {X : Nat → Nat} {Q : Hp → Prop} (hM : Mrc h0 r n) (o : LO ly h0 h l acc 262144) (hl : l < 14) (hb : off ly l + acc.length < 126000) (hS : SU h (fun j => of60 (X j))) (hX : ∀ j, X j < 121) (hq : ∀ h', LO ly h0 h' l (addk true acc (kNo (X 0) (X 1) (X 2))) 262144 → Q h') : w_M_comes 81 (nI l) h Q := by
  have o' := o
  obtain ⟨fd, ky, L, o1, o2, o3, o4, o5, o6, o7⟩ := o
  refine t_M_comes (fr_MS o1 hM.1) o2 o3 o4 hb hl (o5 l (Nat.le_refl _)) o6 (Nat.le_add_right _ _) (fun i hi hi2 => ?_) hS hX (fun hx => ?_) (fun hx h' fd' f g1 g2 g3 => ?_)
  · have := (o7.2 (i - off ly l) (by omega)).2
    rwa [show off ly l + (i - off ly l) = i from by omega] at this
  · obtain ⟨i, i1, i2, i3⟩ := hx
    refine hq h ?_
    have := (o7.2 (i - off ly l) (by omega)).1
    rw [show off ly l + (i - off ly l) = i from by omega, i3] at this
    have hm : kNo (X 0) (X 1) (X 2) ∈ acc := by rw [this]; exact getD_mem (by omega)
    unfold addk
    rw [if_neg (fun z => z.2 hm)]
    exact o'
  · have hm : kNo (X 0) (X 1) (X 2) ∉ acc := fun z => by
      obtain ⟨i, hi, e⟩ := mem_getD (d := 0) z
      exact hx ⟨off ly l + i, Nat.le_add_right _ _, by omega, by rw [(o7.2 i hi).1]; exact e⟩
    refine hq h' ?_
    unfold addk
    rw [if_pos ⟨rfl, hm⟩]
    refine ⟨fd', up1 ky (off ly l + acc.length) (kNo (X 0) (X 1) (X 2)), up1 L (off ly l + acc.length) l, fr_trans o1 (fr_mono f (by simp) (by simp) (by simp) (by simp)), ?_, ?_, ?_, ?_, ?_, ?_⟩
    · rw [List.length_append]; exact g2
    · rw [List.length_append]; exact g3
    · rw [List.length_append]; exact g1
    · rw [fr_I f (x := 95) (by decide) (by decide)]; exact o5
    · rw [fr_I f (x := 95) (by decide) (by decide)]; exact o6
    · refine ⟨fun m i hm2 hi => ?_, fun i hi => ?_⟩
      · have h1 := off_mono ly (show m + 1 ≤ l from hm2)
        rw [off] at h1
        rw [up1_n (by omega), up1_n (by omega)]
        exact o7.1 m i hm2 hi
      · rw [getD_app]
        by_cases e : i = acc.length
        · rw [if_pos e, e, up1_a, up1_a]
          exact ⟨rfl, rfl⟩
        · rw [List.length_append, List.length_singleton] at hi
          rw [if_neg e, up1_n (by omega), up1_n (by omega)]
          exact o7.2 i (by omega)
theorem okS_kst {f : Nat → Int32} {r t w l k c : Nat} (hr : r ≤ 3) (h1 : sX f r k c 1 < 121) (h2 : sX f r k c 2 < 121) : okS f r t w l (kst f r k c) = decide (nSt f r (fun j => of60 (sX f r k c j)) (nI l) (nI t) ≤ nI w * nI t) := by
  obtain ⟨a, b, e⟩ := upk_kNo (x := sX f r k c 0) h1 h2
  unfold okS
  have : nSt f r (fun j => of60 (upk (kst f r k c) j)) (nI l) (nI t) = nSt f r (fun j => of60 (sX f r k c j)) (nI l) (nI t) := by
    unfold nSt
    refine mx_congr (fun j hj => ?_)
    have : upk (kst f r k c) j = sX f r k c j := by
      unfold kst
      match j, (show j < 3 by omega) with
      | 0, _ => exact a
      | 1, _ => exact b
      | 2, _ => exact e
    dsimp only
    rw [this]
  rw [this]
theorem sX_lt {f : Nat → Int32} {r n t c : Nat} {p : List Nat} (hr : r ≤ 3) (hF : FB f n) (hp : p ∈ PL n t) (ht : t < 12) (hc : c < n) (j : Nat) : sX f r (kP f r n p) c j < 121 := by
  by_cases e : j < 3
  · rw [sX_kP hF e hp ht hc]
    have := pY_bd (r := r) hF e (stp_PL hp hc) (by omega)
    omega
  · unfold sX
    rw [if_neg (by omega)]
    match j, e with
    | j + 3, _ => exact Nat.mod_lt _ (by decide)
theorem LO_c {h0 : Hp} {r n t w l i : Nat} {acc0 : List Nat} {Q : Hp → Prop} {k52 k87 : Int32 → Hp → Prop} (hM : Mrc h0 r n) (hF : FB (gI h0 86) n) (ht : t ≤ 12) (hl : l < t) (hi : i < (lay (gI h0 86) r n t w l).length) (hA : kOK (gI h0 86) r n (l + 1) acc0) (o : LO (lay (gI h0 86) r n t w) h0 h (l + 1) acc0 262144)
    (hq : ∀ h', LO (lay (gI h0 86) r n t w) h0 h' (l + 1) (nxC (gI h0 86) r t w (l + 1) ((lay (gI h0 86) r n t w l).getD i 0) acc0 n) 262144 → k87 (nI (off (lay (gI h0 86) r n t w) l + i + 1)) h') : ∃ m, w_M_laysLayers_L103 Q k52 k87 81 (nI t) (nI w) (nI l) (nI (off (lay (gI h0 86) r n t w) l + i)) m 0 h := by
  have hr := hM.2.2.2.2.1
  have hn := hM.2.2.2.2.2
  obtain ⟨p, hp, ep⟩ := (kOK_lay (r := r) (t := t) (w := w) hF l (by omega)).2 _ (getD_mem (d := 0) hi)
  have hb0 := off_le (r := r) (t := t) (w := w) hF (l + 1) (by omega)
  have hb1 := PNs_mono n (show l + 1 + 1 ≤ 13 by omega)
  have hb2 := PNs_le n hn
  rw [PNs] at hb1
  have hlo : off (lay (gI h0 86) r n t w) l + i < off (lay (gI h0 86) r n t w) (l + 1) := by rw [off]; omega
  rw [ep] at hq
  refine loop_0 (fun m c s => w_M_laysLayers_L103 Q k52 k87 81 (nI t) (nI w) (nI l) (nI (off (lay (gI h0 86) r n t w) l + i)) m (nI c) s) (fun c s => LO (lay (gI h0 86) r n t w) h0 s (l + 1) (nxC (gI h0 86) r t w (l + 1) (kP (gI h0 86) r n p) acc0 c) 262144) n _ o ?_ ?_
  · rintro m s o1
    have f := o1.choose_spec.choose_spec.choose_spec.1
    have hM1 := fr_Mrc f (by decide) (by decide) (by decide) hM
    unfold w_M_laysLayers_L103
    rw [nI_1]
    exact ⟨M_K hM1.1, fun _ => hq s o1, fun z => absurd (loop_le hM1.2.2.1) z⟩
  · rintro m c s hc o1 ih
    have hk := kOK_len (kOK_nxC (r := r) (t := t) (w := w) hF (by omega) hp hA c (by omega))
    have o2 := o1
    obtain ⟨fd, ky, L, f, q2, q3, q4, q5, q6, q7⟩ := o2
    have hM1 := fr_Mrc f (by decide) (by decide) (by decide) hM
    have e86 : gI s 86 = gI h0 86 := fr_I f (by decide) (by decide)
    obtain ⟨b1, b2, b3⟩ := M_key hM1.1
    have q9 := q2.2.1 (off (lay (gI h0 86) r n t w) l + i) (by omega)
    rw [(q7.1 l i (by omega) hi).1, ep] at q9
    unfold w_M_laysLayers_L103
    refine ⟨M_K hM1.1, fun z => absurd (hM1.2.2.1 ▸ z) (nI_ge hc (by omega)), fun _ => ?_⟩
    rw [b1, b3, ix_nI (by omega), q9.1, nI_1, nI_1]
    refine ⟨b2, vp_in_nI (by omega) (by omega), t_M_unpacks hM1.1 q9.2 (fun h2 f2 s2 => ?_)⟩
    have hM2 := fr_Mrc f2 (by decide) (by decide) (by decide) hM1
    have e862 : gI h2 86 = gI h0 86 := (fr_I f2 (by decide) (by decide)).trans e86
    refine ⟨M_K hM2.1, t_M_adds hM2 (by omega) s2 (fun h3 f3 s3 => ?_)⟩
    have hM3 := fr_Mrc f3 (by decide) (by decide) (by decide) hM2
    have e863 : gI h3 86 = gI h0 86 := (fr_I f3 (by decide) (by decide)).trans e862
    rw [e862] at s3
    have s4 : SU h3 (fun j => of60 (sX (gI h0 86) r (kP (gI h0 86) r n p) c j)) := fun j hj => (s3 j hj).trans (adR_kP hF hj hp (by omega) hc)
    have hx := sX_lt hr hF hp (show l < 12 by omega) hc
    have o3 := LO_fr (LO_fr o1 f2) f3
    have ok := okS_kst (t := t) (w := w) (l := l + 1) hr (hx 1) (hx 2)
    refine ⟨M_K hM3.1, t_M_strayNow hM3 s4 ⟨fun z => ?_, fun z => ?_⟩⟩
    · refine ih h3 ?_
      rw [e863] at z
      rw [decide_eq_false (Int32.not_le.mpr z)] at ok
      rw [nxC, ok]
      unfold addk
      rw [if_neg (fun y => absurd y.1 (by decide))]
      exact o3
    · rw [e863] at z
      rw [decide_eq_true (Int32.not_lt.mp z)] at ok
      refine ⟨M_K hM3.1, LO_comes hM o3 (by omega) (by omega) s4 hx (fun h5 o5 => ih h5 ?_)⟩
      rw [nxC, ok]
      exact o5
theorem t_M_laysLayers {r n t w : Nat} {Q : Hp → Prop} (hM : Mrc h r n) (hF : FB (gI h 86) n) (ht : t ≤ 12) (hq : ∀ h', LO (lay (gI h 86) r n t w) h h' t (lay (gI h 86) r n t w t) (off (lay (gI h 86) r n t w) (t + 1)) → Q h') : w_M_laysLayers 81 (nI t) (nI w) h Q := by
  obtain ⟨a1, a2, a3⟩ := M_found hM.1
  obtain ⟨c1, c2, c3⟩ := M_layer hM.1
  have hn := hM.2.2.2.2.2
  unfold w_M_laysLayers
  refine loop_0 (fun m i s => w_M_laysLayers_L2 Q 81 (nI t) (nI w) m (nI i) s) (fun i s => Fr [92, 93, 95, 96] [38] [] [] h s ∧ ∀ j, j < i → gI s 96 j = 0) 262144 _ ⟨fr_refl _ _ _ _ _, fun j hj => absurd hj (Nat.not_lt_zero _)⟩ ?_ ?_
  · rintro m s ⟨f, e⟩
    have hM1 := fr_MS f hM.1
    unfold w_M_laysLayers_L2
    refine ⟨fun _ => ?_, fun z => absurd (Int32.le_refl _) z⟩
    rw [fr_K f, fr_R f, fr_N f, c1, c3, show ix (0 : Int32) = 0 from rfl, show ix (1 : Int32) = 1 from rfl]
    have f2 : Fr [92, 93, 95, 96] [38] [] [] h (sI (sI (sI s 81 38 0) 95 0 0) 95 1 262144) := fr_trans f (fr_trans (fr_trans (fr_sI _ _ (Or.inr ⟨rfl, by simp⟩)) (fr_sI _ _ (Or.inl (by simp)))) (fr_sI _ _ (Or.inl (by simp))))
    refine ⟨M_K hM.1, c2, vp_in_nI (n := 0) (by omega) (by omega), vp_in_nI (n := 1) (by omega) (by omega), t_M_noSums (fr_MS f2 hM.1) (fun h5 f5 s5 => ?_)⟩
    have f6 := fr_trans f2 (fr_mono (as' := [92, 93, 95, 96]) (fs' := [38]) (js' := []) (gs' := []) f5 (by simp) (by simp) (by simp) (by simp))
    have o : LO (lay (gI h 86) r n t w) h h5 0 [] 262144 := by
      refine ⟨fun _ => 0, fun _ => 0, fun _ => 0, f6, ⟨fun q hq2 => ⟨?_, Nat.le_refl _⟩, fun i hi => absurd hi (Nat.not_lt_zero _), Nat.zero_le _⟩, ⟨fun i hi => absurd hi (Nat.not_lt_zero _), fun _ _ _ _ z => absurd rfl z⟩, ?_, fun q hq2 => ?_, ?_, ⟨fun q i hq2 => absurd hq2 (Nat.not_lt_zero _), fun i hi => absurd hi (Nat.not_lt_zero _)⟩⟩
      · rw [fr_I f5 (x := 96) (by decide) (by decide), gI_sI, if_neg (fun y => absurd y.1 (by decide)), gI_sI, if_neg (fun y => absurd y.1 (by decide)), gI_sI, if_neg (fun y => absurd y.1 (by decide))]
        exact e q hq2
      · rw [fr_F f5 (by decide) (by decide), gI_sI, if_neg (fun y => absurd y.1 (by decide)), gI_sI, if_neg (fun y => absurd y.1 (by decide)), gI_sI, if_pos ⟨rfl, rfl⟩]
        rfl
      · rw [show q = 0 from by omega, fr_I f5 (x := 95) (by decide) (by decide), gI_sI, if_neg (fun y => absurd y.2 (by decide)), gI_sI, if_pos ⟨rfl, rfl⟩]
        rfl
      · rw [fr_I f5 (x := 95) (by decide) (by decide), gI_sI, if_pos ⟨rfl, rfl⟩]
        rfl
    refine ⟨M_K (fr_MS f6 hM.1), LO_comes (l := 0) (X := fun _ => 60) hM o (by omega) (by show 0 + 0 < 126000; omega) s5 (fun _ => by omega) (fun h7 o7 => ?_)⟩
    refine loop_0 (fun m l s => w_M_laysLayers_L52 Q 81 (nI t) (nI w) m (nI l) s) (fun l s => LO (lay (gI h 86) r n t w) h s l (lay (gI h 86) r n t w l) 262144) t _ o7 ?_ ?_
    · rintro m s o
      obtain ⟨fd, ky, L, f, q2, q3, q4, q5, q6, q7⟩ := o
      unfold w_M_laysLayers_L52
      refine ⟨fun _ => ?_, fun z => absurd (Int32.le_refl _) z⟩
      rw [fr_K f, fr_R f, fr_N f, c1, c3, nI_1, ix_nI (by omega), q4]
      refine ⟨M_K hM.1, c2, vp_in_nI (by omega) (by omega), hq _ ⟨fd, ky, L, fr_trans f (fr_sI _ _ (Or.inl (by simp))), ?_, q3, ?_, fun m2 hm2 => ?_, ?_, q7⟩⟩
      · unfold HS
        simp only [gI_sI]
        refine ⟨fun q hq2 => ?_, fun i hi => ?_, q2.2.2⟩
        · rw [if_neg (fun y => absurd y.1 (by decide))]; exact q2.1 q hq2
        · rw [if_neg (fun y => absurd y.1 (by decide))]; exact q2.2.1 i hi
      · rw [gI_sI, if_neg (fun y => absurd y.1 (by decide))]; exact q4
      · rw [gI_sI, if_neg (fun y => by have := y.2; omega)]; exact q5 m2 hm2
      · rw [gI_sI, if_pos ⟨rfl, rfl⟩, off]
    · rintro m l s hl o ih
      obtain ⟨fd, ky, L, f, q2, q3, q4, q5, q6, q7⟩ := o
      have hM1 := fr_Mrc f (by decide) (by decide) (by decide) hM
      unfold w_M_laysLayers_L52
      refine ⟨fun z => absurd z (nI_ge hl (by omega)), fun _ => ?_⟩
      rw [fr_K f, fr_R f, fr_N f, c1, c3, nI_1, show nI l + 2 = nI (l + 2) from nI_add l 2, ix_nI (n := l + 1) (by omega), ix_nI (n := l + 2) (by omega), ix_nI (n := l) (by omega), q4]
      refine ⟨M_K hM.1, c2, vp_in_nI (by omega) (by omega), vp_in_nI (by omega) (by omega), vp_in_nI (by omega) (by omega), ?_⟩
      rw [gI_sI, if_neg (fun y => by have := y.2; omega), gI_sI, if_neg (fun y => by have := y.2; omega), q5 l (Nat.le_refl _)]
      have o2 : LO (lay (gI h 86) r n t w) h (sI (sI s 95 (l + 1) (nI (off (lay (gI h 86) r n t w) l + (lay (gI h 86) r n t w l).length))) 95 (l + 2) 262144) (l + 1) [] 262144 := by
        refine ⟨fd, ky, L, fr_trans f (fr_trans (fr_sI _ _ (Or.inl (by simp))) (fr_sI _ _ (Or.inl (by simp)))), ?_, ?_, ?_, fun m2 hm2 => ?_, ?_, fun m2 i hm2 hi => ?_, fun i hi => absurd hi (Nat.not_lt_zero _)⟩
        · unfold HS
          simp only [gI_sI]
          refine ⟨fun q hq2 => ?_, fun i hi => ?_, q2.2.2⟩
          · rw [if_neg (fun y => absurd y.1 (by decide)), if_neg (fun y => absurd y.1 (by decide))]; exact q2.1 q hq2
          · rw [if_neg (fun y => absurd y.1 (by decide)), if_neg (fun y => absurd y.1 (by decide))]; exact q2.2.1 i hi
        · exact q3
        · rw [gI_sI, if_neg (fun y => absurd y.1 (by decide)), gI_sI, if_neg (fun y => absurd y.1 (by decide))]; exact q4
        · rw [gI_sI, if_neg (fun y => by have := y.2; omega), gI_sI]
          by_cases g : m2 = l + 1
          · rw [if_pos ⟨rfl, g⟩, g, off]
          · rw [if_neg (fun y => g y.2)]; exact q5 m2 (by omega)
        · rw [gI_sI, if_pos ⟨rfl, rfl⟩]; rfl
        · by_cases g : m2 = l
          · subst g; exact q7.2 i hi
          · exact q7.1 m2 i (by omega) hi
      refine loop_0 (fun m i s => w_M_laysLayers_L87 Q (w_M_laysLayers_L52 Q 81 (nI t) (nI w) _) 81 (nI t) (nI w) (nI l) m (nI (off (lay (gI h 86) r n t w) l + i)) s) (fun i s => LO (lay (gI h 86) r n t w) h s (l + 1) (nxI (gI h 86) r n t w (l + 1) (lay (gI h 86) r n t w l) i) 262144) (lay (gI h 86) r n t w l).length _ o2 ?_ ?_
      · rintro m s o
        have o3 := o
        obtain ⟨fd, ky, L, f, q2, q3, q4, q5, q6, q7⟩ := o
        unfold w_M_laysLayers_L87
        rw [fr_K f, fr_R f, fr_N f, c1, c3, nI_1, ix_nI (by omega), q5 (l + 1) (Nat.le_refl _), off]
        exact ⟨M_K hM.1, c2, vp_in_nI (by omega) (by omega), fun _ => ih s o3, fun z => absurd (Int32.le_refl _) z⟩
      · rintro m i s hi o ih
        have o3 := o
        obtain ⟨fd, ky, L, f, q2, q3, q4, q5, q6, q7⟩ := o
        have hb0 := off_le (r := r) (t := t) (w := w) hF (l + 1) (by omega)
        have hb1 := PNs_mono n (show l + 1 ≤ 13 by omega)
        have hb2 := PNs_le n hn
        unfold w_M_laysLayers_L87
        rw [fr_K f, fr_R f, fr_N f, c1, c3, nI_1, ix_nI (by omega), q5 (l + 1) (Nat.le_refl _)]
        rw [off] at hb0 ⊢
        refine ⟨M_K hM.1, c2, vp_in_nI (by omega) (by omega), fun z => absurd z (nI_ge (by omega) (by omega)), fun _ => ?_⟩
        exact LO_c hM hF ht hl hi (kOK_nxI hF (by omega) (kOK_lay hF l (by omega)) i (by omega)) o3 (fun h' o' => ih h' o')
  · rintro m i s hi ⟨f, e⟩ ih
    unfold w_M_laysLayers_L2
    refine ⟨fun z => absurd z (nI_ge (b := 262144) hi (by omega)), fun _ => ?_⟩
    rw [fr_K f, fr_R f, fr_N f, a1, a3, ix_nI (by omega), nI_1]
    refine ⟨M_K hM.1, a2, vp_in_nI (by omega) (by omega), ih (sI s 96 i 0) ⟨fr_trans f (fr_sI _ _ (Or.inl (by simp))), fun j hj => ?_⟩⟩
    rw [gI_sI]
    by_cases g : j = i
    · rw [if_pos ⟨rfl, g⟩]
    · rw [if_neg (fun y => g y.2)]; exact e j (by omega)
