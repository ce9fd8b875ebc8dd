/-! The reference counts the walks and finds the best rests -/
variable {h : Hp}
/-- the layers are laid -/
def LC (ly : Nat → List Nat) (t : Nat) (h : Hp) : Prop := ∃ fd ky L, HS h (off ly (t + 1)) fd ky ∧ HR (off ly (t + 1)) fd ky L ∧ gI h 81 38 = nI (off ly (t + 1)) ∧ (∀ m, m ≤ t + 1 → gI h 95 m = nI (off ly m)) ∧ ∀ m i, m ≤ t → i < (ly m).length → ky (off ly m + i) = (ly m).getD i 0 ∧ L (off ly m + i) = m
theorem LO_LC {ly : Nat → List Nat} {h0 : Hp} {t : Nat} (o : LO ly h0 h t (ly t) (off ly (t + 1))) : LC ly t h := by
  obtain ⟨fd, ky, L, -, o2, o3, o4, o5, o6, o7⟩ := o
  refine ⟨fd, ky, L, o2, o3, o4, fun m hm => ?_, fun m i hm hi => ?_⟩
  · by_cases e : m = t + 1
    · rw [e]; exact o6
    · exact o5 m (by omega)
  · by_cases e : m = t
    · subst e; exact o7.2 i hi
    · exact o7.1 m i (by omega) hi
theorem LC_fr {ly : Nat → List Nat} {t : Nat} {as fs js gs : List Nat} {h' : Hp} (o : LC ly t h) (f : Fr as fs js gs h h') (h1 : 81 ∉ as) (h2 : 93 ∉ as) (h3 : 95 ∉ as) (h4 : 96 ∉ as) (h5 : 38 ∉ fs) : LC ly t h' := by
  obtain ⟨fd, ky, L, o2, o3, o4, o5, o6⟩ := o
  refine ⟨fd, ky, L, ?_, o3, ?_, ?_, o6⟩
  · unfold HS
    rw [fr_I f (x := 96) h4 (by decide), fr_I f (x := 93) h2 (by decide)]
    exact o2
  · rw [fr_F f h1 h5]; exact o4
  · rw [fr_I f (x := 95) h3 (by decide)]; exact o5
theorem off_1 {f : Nat → Int32} {r n t w l : Nat} (hl : 1 ≤ l) : 1 ≤ off (lay f r n t w) l := by
  have := off_mono (lay f r n t w) hl
  have e : off (lay f r n t w) 1 = 1 := rfl
  omega
theorem LC_key {f : Nat → Int32} {r n t w l i : Nat} (hM : MS h) (hn : n ≤ 8) (hF : FB f n) (ht : t ≤ 12) (o : LC (lay f r n t w) t h) (hl : l ≤ t) (hi : i < (lay f r n t w l).length) : gI h 93 (off (lay f r n t w) l + i) = nI ((lay f r n t w l).getD i 0) ∧ (lay f r n t w l).getD i 0 < 1771561 ∧ off (lay f r n t w) l + i < 126000 := by
  obtain ⟨fd, ky, L, o2, o3, o4, o5, o6⟩ := o
  have h1 := off_mono (lay f r n t w) (show l + 1 ≤ t + 1 by omega)
  rw [off] at h1
  have h2 := o2.2.1 (off (lay f r n t w) l + i) (by omega)
  rw [(o6 l i hl hi).1] at h2
  have h3 := o2.2.2
  exact ⟨h2.1, h2.2, by omega⟩
theorem LC_behind {f : Nat → Int32} {r n t w l i c : Nat} {Q : Int32 → Hp → Prop} (hM : Mrc h r n) (hf : gI h 86 = f) (hF : FB f n) (hN : NB f) (ht : t ≤ 12) (hw : w ≤ 12) (o : LC (lay f r n t w) t h) (hl : l < t) (hi : i < (lay f r n t w l).length) (hc : c < n)
    (hq0 : ∀ h', Fr [92] [] [] [] h h' → inZ f r t w (l + 1) (stZ f (Zk ((lay f r n t w l).getD i 0)) c) = false → Q (-1) h')
    (hq1 : ∀ h' i', Fr [92] [] [] [] h h' → inZ f r t w (l + 1) (stZ f (Zk ((lay f r n t w l).getD i 0)) c) = true → i' < (lay f r n t w (l + 1)).length → (lay f r n t w (l + 1)).getD i' 0 = kst f r ((lay f r n t w l).getD i 0) c → (∀ j, j < r → Zk ((lay f r n t w (l + 1)).getD i' 0) j = stZ f (Zk ((lay f r n t w l).getD i 0)) c j) → Q (nI (off (lay f r n t w) (l + 1) + i')) h') : w_M_behind 81 (nI (off (lay f r n t w) l + i)) (nI l) (nI c) h Q := by
  have hr := hM.2.2.2.2.1
  have hn := hM.2.2.2.2.2
  obtain ⟨fd, ky, L, o2, o3, o4, o5, o6⟩ := o
  have hm := getD_mem (d := 0) hi
  obtain ⟨p, hp, ep⟩ := (kOK_lay (r := r) (t := t) (w := w) hF l (by omega)).2 _ hm
  have h1 := off_mono (lay f r n t w) (show l + 1 + 1 ≤ t + 1 by omega)
  have h2 := o2.2.2
  have h3 := off_1 (f := f) (r := r) (n := n) (t := t) (w := w) (show 1 ≤ l + 1 + 1 by omega)
  have h4 : off (lay f r n t w) (l + 1 + 1) = off (lay f r n t w) (l + 1) + (lay f r n t w (l + 1)).length := rfl
  have h5 : off (lay f r n t w) (l + 1) = off (lay f r n t w) l + (lay f r n t w l).length := rfl
  have eky := (o6 l i (by omega) hi).1
  have hz : ∀ j, j < r → Zk (kst f r ((lay f r n t w l).getD i 0) c) j = stZ f (Zk ((lay f r n t w l).getD i 0)) c j := fun j hj => by
    rw [ep]
    exact Zk_kst hr hF hj hp (by omega) hc
  have hin : kst f r ((lay f r n t w l).getD i 0) c ∈ lay f r n t w (l + 1) ↔ inZ f r t w (l + 1) (stZ f (Zk ((lay f r n t w l).getD i 0)) c) = true := by
    rw [mem_lay hm hc, ← inZ_congr hz, ep, kst_kP hF hp (by omega) hc, okS_in hr hF hN ht (by omega) hw (stp_PL hp hc) (by omega)]
  refine t_M_behind (lo := off (lay f r n t w) (l + 1)) (hi := off (lay f r n t w) (l + 1 + 1)) (X := sX f r ((lay f r n t w l).getD i 0) c) hM o2 o3 (by omega) (by omega) (by omega) (o5 _ (by omega)) (o5 _ (by omega)) (by omega) h3 (by omega) (fun j hj1 hj2 hj3 => ?_) (fun j hj => ?_) (fun j => ?_) (fun h' f' hno => hq0 h' f' ?_) (fun h' j f' j1 j2 j3 j4 => ?_)
  · have := (o6 (l + 1) (j - off (lay f r n t w) (l + 1)) (by omega) (by omega)).2
    rwa [show off (lay f r n t w) (l + 1) + (j - off (lay f r n t w) (l + 1)) = j from by omega] at this
  · rw [eky, hf, ep]
    exact adR_kP hF hj hp (by omega) hc
  · rw [ep]
    exact sX_lt hr hF hp (by omega) hc j
  · cases e : inZ f r t w (l + 1) (stZ f (Zk ((lay f r n t w l).getD i 0)) c)
    · rfl
    · obtain ⟨i', hi', e'⟩ := mem_getD (d := 0) (hin.mpr e)
      exact absurd ⟨off (lay f r n t w) (l + 1) + i', by omega, by omega, by omega, by rw [(o6 (l + 1) i' (by omega) hi').1]; exact e'⟩ hno
  · have e6 := (o6 (l + 1) (j - off (lay f r n t w) (l + 1)) (by omega) (by omega)).1
    rw [show off (lay f r n t w) (l + 1) + (j - off (lay f r n t w) (l + 1)) = j from by omega, j4] at e6
    have e6 : (lay f r n t w (l + 1)).getD (j - off (lay f r n t w) (l + 1)) 0 = kst f r ((lay f r n t w l).getD i 0) c := e6.symm
    have := hq1 h' (j - off (lay f r n t w) (l + 1)) f' (hin.mp (by rw [← e6]; exact getD_mem (by omega))) (by omega) e6 (by rw [e6]; exact hz)
    rwa [show off (lay f r n t w) (l + 1) + (j - off (lay f r n t w) (l + 1)) = j from by omega] at this
/-- ways and rest stand for a state -/
def W1 (f : Nat → Int32) (r n t w : Nat) (h : Hp) (m i : Nat) : Prop := gL h 97 (off (lay f r n t w) m + i) = lN (wz f r n t w (t - m) (Zk ((lay f r n t w m).getD i 0))) ∧ gI h 94 (off (lay f r n t w) m + i) = rz f r n t w (t - m) (Zk ((lay f r n t w m).getD i 0))
/-- they stand for all layers from l on but the first i of l -/
def WD (f : Nat → Int32) (r n t w : Nat) (h : Hp) (l i : Nat) : Prop := ∀ m i', m ≤ t → i' < (lay f r n t w m).length → (l < m ∨ m = l ∧ i' < i) → W1 f r n t w h m i'
theorem W1_fr {f : Nat → Int32} {r n t w m i : Nat} {h' : Hp} (a : W1 f r n t w h m i) (f' : Fr [92] [] [] [] h h') : W1 f r n t w h' m i := by
  unfold W1
  rw [fr_L f' (x := 97) (by decide) (by decide), fr_I f' (x := 94) (by decide) (by decide)]
  exact a
theorem lN_e0 {v : Nat} (h : v < 2 ^ 63) : lN v = 0 ↔ v = 0 := by
  rw [← Int64.toInt_inj, pk_lT h, show (0 : Int64).toInt = 0 from rfl]
  omega
theorem lN_le0 {v : Nat} (h : v < 2 ^ 63) : lN v ≤ 0 ↔ v = 0 := by
  rw [Int64.le_iff_toInt_le, pk_lT h, show (0 : Int64).toInt = 0 from rfl]
  omega
theorem nd_Z {f : Nat → Int32} {r n l : Nat} {p : List Nat} (hr : r ≤ 3) (hF : FB f n) (hp : p ∈ PL n l) (hl : l ≤ 12) : allB (fun j => decide (of60 (upk (kP f r n p) j) = f (32 + j))) r = ndZ f r (Zk (kP f r n p)) := by
  unfold ndZ
  refine allB_congr (fun j hj => ?_)
  have := pY_bd (r := r) hF (show j < 3 by omega) hp hl
  rw [← upk_kP hF (by omega) hp hl] at this
  rw [decide_eq_decide, ← Int32.toInt_inj, of60_toInt (by omega)]
  rfl
theorem t_ways_in {f : Nat → Int32} {r n t w l i : Nat} {Q : Hp → Prop} {k73 k84 : Int32 → Hp → Prop} {h0 : Hp} (hM : Mrc h0 r n) (hf : gI h0 86 = f) (hF : FB f n) (hN : NB f) (ht : t ≤ 12) (hw : w ≤ 12) (o : LC (lay f r n t w) t h0) (hl : l < t) (hi : i < (lay f r n t w l).length) (f0 : Fr [92, 94] [] [97] [] h0 h) (hD : WD f r n t w h l i) (e1 : gL h 97 (off (lay f r n t w) l + i) = 0) (e2 : gI h 94 (off (lay f r n t w) l + i) = -1000000000)
    (hq : ∀ h', Fr [92, 94] [] [97] [] h0 h' → WD f r n t w h' l (i + 1) → k84 (nI (off (lay f r n t w) l + (i + 1))) h') : ∃ m, w_M_laysWays_L115 Q k73 k84 81 (nI l) (nI (off (lay f r n t w) l + i)) m 0 h := by
  have hr := hM.2.2.2.2.1
  have hn := hM.2.2.2.2.2
  obtain ⟨m', hm'⟩ : ∃ m', t - l = m' + 1 := ⟨t - l - 1, by omega⟩
  have hm2 : t - m' = l + 1 := by omega
  have hm3 : t - (l + 1) = m' := by omega
  refine loop_0 (fun m c s => w_M_laysWays_L115 Q k73 k84 81 (nI l) (nI (off (lay f r n t w) l + i)) m (nI c) s) (fun c s => Fr [92, 94] [] [97] [] h0 s ∧ WD f r n t w s l i ∧ gL s 97 (off (lay f r n t w) l + i) = lN (smN (fun c => vz f r n t w m' (stZ f (Zk ((lay f r n t w l).getD i 0)) c)) c) ∧ gI s 94 (off (lay f r n t w) l + i) = rzC (fun c => decide (vz f r n t w m' (stZ f (Zk ((lay f r n t w l).getD i 0)) c) ≠ 0)) (fun c => f (24 + c) + rz f r n t w m' (stZ f (Zk ((lay f r n t w l).getD i 0)) c)) c) n _ ⟨f0, hD, e1, e2⟩ ?_ ?_
  · rintro m s ⟨f1, d1, w1, w2⟩
    have hM1 := fr_Mrc f1 (by decide) (by decide) (by decide) hM
    unfold w_M_laysWays_L115
    rw [nI_1]
    refine ⟨M_K hM1.1, fun _ => hq s f1 (fun m i' a b c => ?_), fun z => absurd (loop_le hM1.2.2.1) z⟩
    by_cases e : m = l ∧ i' = i
    · rw [e.1, e.2]
      unfold W1
      rw [hm', wz_vz, rz]
      exact ⟨w1, w2⟩
    · exact d1 m i' a b (by omega)
  · rintro m c s hc ⟨f1, d1, w1, w2⟩ ih
    have hM1 := fr_Mrc f1 (by decide) (by decide) (by decide) hM
    have o1 := LC_fr o f1 (by decide) (by decide) (by decide) (by decide) (by decide)
    have hb := LC_key hM1.1 hn hF ht o1 (by omega) hi
    unfold w_M_laysWays_L115
    refine ⟨M_K hM1.1, fun z => absurd (hM1.2.2.1 ▸ z) (nI_ge hc (by omega)), fun _ => ?_⟩
    rw [nI_1]
    refine LC_behind hM1 ((fr_I f1 (x := 86) (by decide) (by decide)).trans hf) hF hN ht hw o1 hl hi hc (fun h2 f2 z2 => ⟨fun _ => ?_, fun z => absurd (by decide) z⟩) (fun h2 i' f2 z2 hi' ek hz => ?_)
    · have f12 := fr_trans f1 (fr_mono (as' := [92, 94]) (fs' := []) (js' := [97]) (gs' := []) f2 (by simp) (by simp) (by simp) (by simp))
      have v0 : vz f r n t w m' (stZ f (Zk ((lay f r n t w l).getD i 0)) c) = 0 := by
        unfold vz
        rw [hm2, z2]
        rfl
      refine ih h2 ⟨f12, fun m i' a b c => W1_fr (d1 m i' a b c) f2, ?_, ?_⟩
      · rw [fr_L f2 (x := 97) (by decide) (by decide), w1, smN, v0, Nat.add_zero]
      · rw [fr_I f2 (x := 94) (by decide) (by decide), w2, rzC, v0]
        rfl
    · have f12 := fr_trans f1 (fr_mono (as' := [92, 94]) (fs' := []) (js' := [97]) (gs' := []) f2 (by simp) (by simp) (by simp) (by simp))
      have hM2 := fr_Mrc f12 (by decide) (by decide) (by decide) hM
      have hb2 := LC_key (l := l + 1) (i := i') hM1.1 hn hF ht o1 (by omega) hi'
      obtain ⟨a1, a2, a3⟩ := M_ways hM2.1
      obtain ⟨b1, b2, b3⟩ := M_rest hM2.1
      have d2 : WD f r n t w h2 l i := fun m i' a b c => W1_fr (d1 m i' a b c) f2
      have dj := d2 (l + 1) i' (by omega) hi' (Or.inl (by omega))
      unfold W1 at dj
      rw [hm3, wz_congr _ hz, rz_congr _ hz] at dj
      have vv : vz f r n t w m' (stZ f (Zk ((lay f r n t w l).getD i 0)) c) = wz f r n t w m' (stZ f (Zk ((lay f r n t w l).getD i 0)) c) := by
        unfold vz
        rw [hm2, z2]
        rfl
      have vl := wz_lt (f := f) (r := r) (t := t) (w := w) (m := m') hn (by omega) (stZ f (Zk ((lay f r n t w l).getD i 0)) c)
      rw [a1, a3, b1, b3, ix_nI (n := off (lay f r n t w) (l + 1) + i') (by omega), ix_nI (n := off (lay f r n t w) l + i) (by omega), dj.1]
      refine ⟨fun z => absurd z (nI_pos (by omega)), fun _ => ⟨M_K hM2.1, a2, vp_in_nI (by omega) (by omega), fun z => ?_, fun z => ?_⟩⟩
      · have v0 := (lN_e0 (by omega)).mp z
        rw [v0] at vv
        refine ih h2 ⟨f12, d2, ?_, ?_⟩
        · rw [fr_L f2 (x := 97) (by decide) (by decide), w1, smN, vv, Nat.add_zero]
        · rw [fr_I f2 (x := 94) (by decide) (by decide), w2, rzC, vv]
          rfl
      · have v0 : wz f r n t w m' (stZ f (Zk ((lay f r n t w l).getD i 0)) c) ≠ 0 := fun g => z ((lN_e0 (by omega)).mpr g)
        have hM3 : Mrc (sL h2 97 (off (lay f r n t w) l + i) (gL h2 97 (off (lay f r n t w) l + i) + lN (wz f r n t w m' (stZ f (Zk ((lay f r n t w l).getD i 0)) c)))) r n := fr_Mrc (as := []) (fs := []) (js := [97]) (gs := []) (fr_sL _ _ (Or.inl (by simp))) (by decide) (by decide) (by decide) hM2
        refine ⟨vp_in_nI (by omega) (by omega), b2, vp_in_nI (by omega) (by omega), t_M_gainOf hM3.1 (by omega) ?_⟩
        obtain ⟨b1, b2, b3⟩ := M_rest hM3.1
        rw [b1, b3, gI_sL, dj.2, fr_I f2 (x := 94) (by decide) (by decide), fr_I f2 (x := 86) (by decide) (by decide), fr_I f1 (x := 86) (by decide) (by decide), hf, w2, fr_L f2 (x := 97) (by decide) (by decide), w1, lN_add]
        refine ⟨M_K hM3.1, b2, vp_in_nI (by omega) (by omega), t_M_greater ⟨b2, by rw [gN_sL, fr_N f12, (M_rest hM.1).2.2]; exact vp_in_nI (by omega) (by omega), ih _ ⟨?_, ?_, ?_, ?_⟩⟩⟩
        · exact fr_trans (fr_trans f12 (fr_sL _ _ (Or.inl (by simp)))) (fr_sI _ _ (Or.inl (by simp)))
        · intro m i2 a b e
          have hne : off (lay f r n t w) m + i2 ≠ off (lay f r n t w) l + i := by
            rcases e with e | ⟨e, e'⟩
            · have := off_mono (lay f r n t w) (show l + 1 ≤ m from e)
              rw [off] at this
              omega
            · rw [e]; omega
          have := d2 m i2 a b e
          unfold W1
          rw [gL_sI, gL_sL, if_neg (fun y => hne y.2), gI_sI, if_neg (fun y => hne y.2), gI_sL]
          exact this
        · rw [gL_sI, gL_sL, if_pos ⟨rfl, rfl⟩, smN, vv]
        · rw [gI_sI, if_pos ⟨rfl, rfl⟩, rzC, if_pos (by rw [decide_eq_true_eq, vv]; exact v0)]
theorem t_M_laysWays {f : Nat → Int32} {r n t w : Nat} {Q : Hp → Prop} (hM : Mrc h r n) (hf : gI h 86 = f) (hF : FB f n) (hN : NB f) (ht : t ≤ 12) (hw : w ≤ 12) (o : LC (lay f r n t w) t h) (hq : ∀ h', Fr [92, 94] [] [97] [] h h' → (∀ m i, m ≤ t → i < (lay f r n t w m).length → W1 f r n t w h' m i) → Q h') : w_M_laysWays 81 (nI t) h Q := by
  have hr := hM.2.2.2.2.1
  have hn := hM.2.2.2.2.2
  obtain ⟨c1, c2, c3⟩ := M_layer hM.1
  obtain ⟨a1, a2, a3⟩ := M_ways hM.1
  obtain ⟨b1, b2, b3⟩ := M_rest hM.1
  obtain ⟨k1, k2, k3⟩ := M_key hM.1
  have e95 : ∀ m, m ≤ t + 1 → gI h 95 m = nI (off (lay f r n t w) m) := by
    obtain ⟨fd, ky, L, o2, o3, o4, o5, o6⟩ := o
    exact o5
  have hN6 : off (lay f r n t w) (t + 1) ≤ 126000 := by
    obtain ⟨fd, ky, L, o2, o3, o4, o5, o6⟩ := o
    exact o2.2.2
  have down : ∀ l, l ≤ t → ∀ s, Fr [92, 94] [] [97] [] h s → WD f r n t w s l (lay f r n t w l).length → w_M_laysWays_L73 Q 81 (l + 1) (nI l - 1) s := by
    intro l
    induction l with
    | zero =>
      intro _ s f1 d1
      unfold w_M_laysWays_L73
      exact ⟨fun _ => hq s f1 (fun m i a b => d1 m i a b (by
        by_cases e : m = 0
        · subst e; exact Or.inr ⟨rfl, b⟩
        · exact Or.inl (by omega))), fun z => absurd (by decide) z⟩
    | succ l ih =>
      intro hl s f1 d1
      have h4 : off (lay f r n t w) (l + 1) = off (lay f r n t w) l + (lay f r n t w l).length := rfl
      have h5 := off_mono (lay f r n t w) (show l + 1 ≤ t + 1 by omega)
      unfold w_M_laysWays_L73
      rw [nI_s1, fr_K f1, fr_R f1, fr_N f1, c1, c3, ix_nI (by omega), fr_I f1 (x := 95) (by decide) (by decide), e95 l (by omega)]
      refine ⟨fun z => absurd z (nI_pos (by omega)), fun _ => ⟨M_K hM.1, c2, vp_in_nI (by omega) (by omega), ?_⟩⟩
      refine loop_0 (fun m i s => w_M_laysWays_L84 Q (w_M_laysWays_L73 Q 81 (l + 1)) 81 (nI l) m (nI (off (lay f r n t w) l + i)) s) (fun i s => Fr [92, 94] [] [97] [] h s ∧ WD f r n t w s l i) (lay f r n t w l).length _ ⟨f1, fun m i' a b c => ?_⟩ ?_ ?_
      · rcases c with c | c
        · refine d1 m i' a b ?_
          by_cases e : m = l + 1
          · subst e; exact Or.inr ⟨rfl, b⟩
          · exact Or.inl (by omega)
        · exact absurd c.2 (Nat.not_lt_zero _)
      · rintro m s ⟨f2, d2⟩
        unfold w_M_laysWays_L84
        rw [fr_K f2, fr_R f2, fr_N f2, c1, c3, nI_1, ix_nI (by omega), fr_I f2 (x := 95) (by decide) (by decide), e95 (l + 1) (by omega), h4]
        refine ⟨M_K hM.1, c2, vp_in_nI (by omega) (by omega), fun _ => ?_, fun z => absurd (Int32.le_refl _) z⟩
        have := ih (by omega) s f2 d2
        rwa [Int32.sub_eq_add_neg] at this
      · rintro m i s hi ⟨f2, d2⟩ ih2
        unfold w_M_laysWays_L84
        rw [fr_K f2, fr_R f2, fr_N f2, c1, c3, a1, a3, b1, b3, nI_1, ix_nI (n := l + 1) (by omega), ix_nI (n := off (lay f r n t w) l + i) (by omega), fr_I f2 (x := 95) (by decide) (by decide), e95 (l + 1) (by omega), h4]
        refine ⟨M_K hM.1, c2, vp_in_nI (by omega) (by omega), fun z => absurd z (nI_ge (by omega) (by omega)), fun _ => ⟨a2, vp_in_nI (by omega) (by omega), b2, vp_in_nI (by omega) (by omega), ?_⟩⟩
        refine t_ways_in hM hf hF hN ht hw o (by omega) hi (fr_trans (fr_trans f2 (fr_sL _ _ (Or.inl (by simp)))) (fr_sI _ _ (Or.inl (by simp)))) (fun m i2 a b e => ?_) ?_ ?_ (fun h' f' d' => ih2 h' ⟨f', d'⟩)
        · have hne : off (lay f r n t w) m + i2 ≠ off (lay f r n t w) l + i := by
            rcases e with e | ⟨e, e'⟩
            · have := off_mono (lay f r n t w) (show l + 1 ≤ m from e)
              omega
            · rw [e]; omega
          have := d2 m i2 a b e
          unfold W1
          rw [gL_sI, gL_sL, if_neg (fun y => hne y.2), gI_sI, if_neg (fun y => hne y.2), gI_sL]
          exact this
        · rw [gL_sI, gL_sL, if_pos ⟨rfl, rfl⟩]
        · rw [gI_sI, if_pos ⟨rfl, rfl⟩]
  unfold w_M_laysWays
  rw [c1, c3, ix_nI (by omega), e95 t (by omega)]
  refine ⟨M_K hM.1, c2, vp_in_nI (by omega) (by omega), ?_⟩
  have h4 : off (lay f r n t w) (t + 1) = off (lay f r n t w) t + (lay f r n t w t).length := rfl
  refine loop_0 (fun m i s => w_M_laysWays_L7 Q 81 (nI t) m (nI (off (lay f r n t w) t + i)) s) (fun i s => Fr [92, 94] [] [97] [] h s ∧ WD f r n t w s t i) (lay f r n t w t).length _ ⟨fr_refl _ _ _ _ _, fun m i' a b c => absurd c (by omega)⟩ ?_ ?_
  · rintro m s ⟨f2, d2⟩
    unfold w_M_laysWays_L7
    rw [fr_K f2, fr_R f2, fr_N f2, c1, c3, nI_1, ix_nI (by omega), fr_I f2 (x := 95) (by decide) (by decide), e95 (t + 1) (by omega), h4]
    exact ⟨M_K hM.1, c2, vp_in_nI (by omega) (by omega), fun _ => ⟨t + 1, down t (Nat.le_refl _) s f2 d2⟩, fun z => absurd (Int32.le_refl _) z⟩
  · rintro m i s hi ⟨f2, d2⟩ ih
    have hM2 := fr_Mrc f2 (by decide) (by decide) (by decide) hM
    have o2 := LC_fr o f2 (by decide) (by decide) (by decide) (by decide) (by decide)
    obtain ⟨g1, g2, g3⟩ := LC_key hM2.1 hn hF ht o2 (Nat.le_refl _) hi
    obtain ⟨p, hp, ep⟩ := (kOK_lay (r := r) (t := t) (w := w) hF t ht).2 _ (getD_mem (d := 0) hi)
    have nz := nd_Z (r := r) hr hF hp ht
    rw [← ep] at nz
    unfold w_M_laysWays_L7
    rw [fr_K f2, fr_R f2, fr_N f2, c1, c3, k1, k3, nI_1, ix_nI (n := t + 1) (by omega), ix_nI (n := off (lay f r n t w) t + i) (by omega), fr_I f2 (x := 95) (by decide) (by decide), e95 (t + 1) (by omega), h4, g1, nI_1]
    refine ⟨M_K hM.1, c2, vp_in_nI (by omega) (by omega), fun z => absurd z (nI_ge (by omega) (by omega)), fun _ => ⟨k2, vp_in_nI (by omega) (by omega), t_M_unpacks hM2.1 g2 (fun h3 f3 s3 => ?_)⟩⟩
    have hM3 := fr_Mrc f3 (by decide) (by decide) (by decide) hM2
    have e863 : gI h3 86 = f := (fr_I f3 (by decide) (by decide)).trans ((fr_I f2 (by decide) (by decide)).trans hf)
    refine ⟨M_K hM3.1, t_M_isNeeded hM3 s3 (t_M_truth ?_)⟩
    obtain ⟨a1', a2', a3'⟩ := M_ways hM3.1
    obtain ⟨b1', b2', b3'⟩ := M_rest hM3.1
    rw [e863]
    rw [nz, a1', a3', b1']
    refine ⟨a2', vp_in_nI (by omega) (by omega), M_K hM3.1, ?_⟩
    have f4 : Fr [] [] [97] [] h3 (sL h3 97 (off (lay f r n t w) t + i) (b2i (ndZ f r (Zk ((lay f r n t w t).getD i 0)))).toInt64) := fr_sL _ _ (Or.inl (by simp))
    have hM4 := fr_Mrc f4 (by decide) (by decide) (by decide) hM3
    refine t_M_isNeeded hM4 (SU_fr f4 (by decide) s3) ?_
    rw [fr_I f4 (x := 86) (by decide) (by decide), e863]
    rw [nz, fr_K f4, fr_N f4, b3']
    have fin : ∀ v, v = rz f r n t w (t - t) (Zk ((lay f r n t w t).getD i 0)) → w_M_laysWays_L7 Q 81 (nI t) m (nI (off (lay f r n t w) t + (i + 1))) (sI (sL h3 97 (off (lay f r n t w) t + i) (b2i (ndZ f r (Zk ((lay f r n t w t).getD i 0)))).toInt64) 94 (off (lay f r n t w) t + i) v) := by
      intro v hv
      refine ih _ ⟨?_, fun m i2 a b e => ?_⟩
      · exact fr_trans (fr_trans (fr_trans f2 (fr_mono f3 (by simp) (by simp) (by simp) (by simp))) (fr_sL _ _ (Or.inl (by simp)))) (fr_sI _ _ (Or.inl (by simp)))
      · by_cases g : i2 = i
        · rw [g, show m = t from by omega]
          unfold W1
          rw [gL_sI, gL_sL, if_pos ⟨rfl, rfl⟩, gI_sI, if_pos ⟨rfl, rfl⟩, hv, Nat.sub_self, wz]
          refine ⟨?_, rfl⟩
          cases ndZ f r (Zk ((lay f r n t w t).getD i 0)) <;> rfl
        · have hne : off (lay f r n t w) m + i2 ≠ off (lay f r n t w) t + i := by
            rw [show m = t from by omega]; omega
          have := W1_fr (d2 m i2 a b (by omega)) f3
          unfold W1
          rw [gL_sI, gL_sL, if_neg (fun y => hne y.2), gI_sI, if_neg (fun y => hne y.2), gI_sL]
          exact this
    refine ⟨fun z => ⟨b2', vp_in_nI (by omega) (by omega), fin _ ?_⟩, fun z => ⟨b2', vp_in_nI (by omega) (by omega), fin _ ?_⟩⟩
    · rw [Nat.sub_self, rz, z]; rfl
    · rw [Nat.sub_self, rz, ntf z]; rfl
