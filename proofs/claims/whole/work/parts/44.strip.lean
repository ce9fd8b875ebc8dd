/-! What the reference tells of a strip -/
variable {h : Hp}
def CV (f : Nat → Int32) (r n t w : Nat) (h : Hp) : Prop := gI h 81 41 = 1 ∧ gI h 81 39 = nI t ∧ gI h 81 40 = nI w ∧ LC (lay f r n t w) t h ∧ ∀ m i, m ≤ t → i < (lay f r n t w m).length → W1 f r n t w h m i
/-- what is kept of a strip is right -/
def SV (f : Nat → Int32) (r n : Nat) (h : Hp) : Prop := gI h 81 41 = 0 ∨ ∃ t w, t ≤ 12 ∧ w ≤ 12 ∧ CV f r n t w h
theorem CV_fr {f : Nat → Int32} {r n t w : Nat} {as fs js gs : List Nat} {h' : Hp} (o : CV f r n t w h) (a : Fr as fs js gs h h') (h1 : 81 ∉ as) (h2 : 93 ∉ as) (h3 : 94 ∉ as) (h4 : 95 ∉ as) (h5 : 96 ∉ as) (h6 : 97 ∉ js) (h7 : 38 ∉ fs) (h8 : 39 ∉ fs) (h9 : 40 ∉ fs) (h10 : 41 ∉ fs) : CV f r n t w h' := by
  obtain ⟨o1, o2, o3, o4, o5⟩ := o
  refine ⟨(fr_F a h1 h10).trans o1, (fr_F a h1 h8).trans o2, (fr_F a h1 h9).trans o3, LC_fr o4 a h1 h2 h4 h5 h7, fun m i hm hi => ?_⟩
  unfold W1
  rw [fr_L a (x := 97) h6 (by decide), fr_I a (x := 94) h3 (by decide)]
  exact o5 m i hm hi
theorem SV_fr {f : Nat → Int32} {r n : Nat} {as fs js gs : List Nat} {h' : Hp} (o : SV f r n h) (a : Fr as fs js gs h h') (h1 : 81 ∉ as) (h2 : 93 ∉ as) (h3 : 94 ∉ as) (h4 : 95 ∉ as) (h5 : 96 ∉ as) (h6 : 97 ∉ js) (h7 : 38 ∉ fs) (h8 : 39 ∉ fs) (h9 : 40 ∉ fs) (h10 : 41 ∉ fs) : SV f r n h' := by
  rcases o with o | ⟨t, w, ht, hw, o⟩
  · exact Or.inl ((fr_F a h1 h10).trans o)
  · exact Or.inr ⟨t, w, ht, hw, CV_fr o a h1 h2 h3 h4 h5 h6 h7 h8 h9 h10⟩
theorem t_M_laysStrip {f : Nat → Int32} {r n t w : Nat} {Q : Hp → Prop} (hM : Mrc h r n) (hf : gI h 86 = f) (hF : FB f n) (hN : NB f) (ht : t ≤ 12) (hw : w ≤ 12) (hV : SV f r n h) (hq : ∀ h', Fr [92, 93, 94, 95, 96] [38, 39, 40, 41] [97] [] h h' → CV f r n t w h' → Q h') : w_M_laysStrip 81 (nI t) (nI w) h Q := by
  have lays : w_M_laysStrip_B24 Q 81 (nI t) (nI w) h := by
    subst hf
    unfold w_M_laysStrip_B24
    refine ⟨M_K hM.1, t_M_laysLayers hM hF ht (fun h2 o => ?_)⟩
    have f2 := o.choose_spec.choose_spec.choose_spec.1
    have hM2 := fr_Mrc f2 (by decide) (by decide) (by decide) hM
    refine ⟨M_K hM2.1, t_M_laysWays hM2 (fr_I f2 (by decide) (by decide)) hF hN ht hw (LO_LC o) (fun h4 f4 w4 => ?_)⟩
    have hM4 := fr_Mrc f4 (by decide) (by decide) (by decide) hM2
    have f5 : Fr [] [39, 40, 41] [] [] h4 (sI (sI (sI h4 81 41 1) 81 39 (nI t)) 81 40 (nI w)) := fr_trans (fr_trans (fr_sI _ _ (Or.inr ⟨rfl, by simp⟩)) (fr_sI _ _ (Or.inr ⟨rfl, by simp⟩))) (fr_sI _ _ (Or.inr ⟨rfl, by simp⟩))
    refine ⟨M_K hM4.1, hq _ (fr_trans (fr_trans (fr_mono f2 (by simp) (by simp) (by simp) (by simp)) (fr_mono f4 (by simp) (by simp) (by simp) (by simp))) (fr_mono f5 (by simp) (by simp) (by simp) (by simp))) ⟨?_, ?_, ?_, LC_fr (LC_fr (LO_LC o) f4 (by decide) (by decide) (by decide) (by decide) (by decide)) f5 (by decide) (by decide) (by decide) (by decide) (by decide), fun m i hm hi => ?_⟩⟩
    · rw [gI_sI, if_neg (by decide), gI_sI, if_neg (by decide), gI_sI, if_pos ⟨rfl, rfl⟩]
    · rw [gI_sI, if_neg (by decide), gI_sI, if_pos ⟨rfl, rfl⟩]
    · rw [gI_sI, if_pos ⟨rfl, rfl⟩]
    · unfold W1
      rw [fr_L f5 (x := 97) (by decide) (by decide), fr_I f5 (x := 94) (by decide) (by decide)]
      exact w4 m i hm hi
  unfold w_M_laysStrip
  refine ⟨M_K hM.1, fun _ => lays, fun z => ?_⟩
  rcases hV with hV | ⟨t2, w2, ht2, hw2, hV⟩
  · exact absurd hV z
  · rw [hV.2.1, hV.2.2.1]
    refine ⟨fun z2 => ⟨fun z3 => ?_, fun _ => lays⟩, fun _ => lays⟩
    have e2 := (nI_eq (by omega) (by omega)).mp z2
    have e3 := (nI_eq (by omega) (by omega)).mp z3
    subst e2
    subst e3
    exact hq h (fr_refl _ _ _ _ _) hV
theorem upk_0 (j : Nat) : upk (kNo 60 60 60) j = 60 := by
  match j with
  | 0 => rfl
  | 1 => rfl
  | j + 2 => rfl
theorem CV_0 {f : Nat → Int32} {r n t w : Nat} (o : CV f r n t w h) : gL h 97 0 = lN (wz f r n t w t (fun _ => 0)) ∧ gI h 94 0 = rz f r n t w t (fun _ => 0) := by
  have := o.2.2.2.2 0 0 (Nat.zero_le _) (by rw [lay]; decide)
  unfold W1 at this
  have e : (lay f r n t w 0).getD 0 0 = kNo 60 60 60 := rfl
  have hz : ∀ j, j < r → Zk (kNo 60 60 60) j = (fun _ => (0 : Int)) j := fun j _ => by
    unfold Zk
    rw [upk_0]
    rfl
  rw [e, wz_congr _ hz, rz_congr _ hz] at this
  exact this
theorem isStrip_nI {t w : Int32} (z : ¬ ((decide (0 ≤ t) && decide (t ≤ 12)) && (decide (0 ≤ w) && decide (w ≤ 12))) = false) : ∃ t' w', t' ≤ 12 ∧ w' ≤ 12 ∧ t = nI t' ∧ w = nI w' := by
  have z := ntf z
  rw [Bool.and_eq_true] at z
  obtain ⟨t', ht', e1⟩ := in_nI (k := 12) (v := t) (M := 12) rfl (by rw [z.1]; decide)
  obtain ⟨w', hw', e2⟩ := in_nI (k := 12) (v := w) (M := 12) rfl (by rw [z.2]; decide)
  exact ⟨t', w', ht', hw', e1, e2⟩
def isSt (t w : Int32) : Bool := (decide (0 ≤ t) && decide (t ≤ 12)) && (decide (0 ≤ w) && decide (w ≤ 12))
theorem t_M_strip {f : Nat → Int32} {r n : Nat} {t w v : Int32} {Q : Int32 → Hp → Prop} (hM : Mrc h r n) (hf : gI h 86 = f) (hF : FB f n) (hN : NB f) (hV : SV f r n h) (hq0 : (isSt t w && (decide (0 ≤ v) && decide (v ≤ 1))) = false → Q (-1) h)
    (hq : ∀ h' t' w', t' ≤ 12 → w' ≤ 12 → t = nI t' → w = nI w' → Fr [92, 93, 94, 95, 96] [38, 39, 40, 41] [97] [] h h' → CV f r n t' w' h' → (v = 0 → Q (b2i (decide (wz f r n t' w' t' (fun _ => 0) ≠ 0))) h') ∧ (v = 1 → Q (nI (off (lay f r n t' w') (t' + 1))) h')) : w_M_strip 81 t w v h Q := by
  have hn := hM.2.2.2.2.2
  unfold w_M_strip
  unfold isSt at hq0
  refine t_M_isStrip ⟨fun z => hq0 (by rw [z]; rfl), fun z => t_M_isIn ⟨fun z2 => hq0 (by rw [z2, Bool.and_false]), fun z2 => ⟨M_K hM.1, ?_⟩⟩⟩
  obtain ⟨t', w', ht, hw, rfl, rfl⟩ := isStrip_nI z
  obtain ⟨v', hv, rfl⟩ := in_nI (k := 1) (v := v) (M := 1) rfl z2
  refine t_M_laysStrip hM hf hF hN ht hw hV (fun h2 f2 c2 => ?_)
  have hM2 := fr_Mrc f2 (by decide) (by decide) (by decide) hM
  obtain ⟨a1, a2, a3⟩ := M_ways hM2.1
  have hq := hq h2 t' w' ht hw rfl rfl f2 c2
  have c0 := CV_0 c2
  have vl := wz_lt (f := f) (r := r) (t := t') (w := w') (m := t') hn ht (fun _ => 0)
  rw [a1, a3, show ix (0 : Int32) = 0 from rfl, c0.1]
  refine ⟨fun z3 => ⟨M_K hM2.1, a2, vp_in_nI (n := 0) (by omega) (by omega), fun z4 => ?_, fun z4 => ?_⟩, fun z3 => ⟨M_K hM2.1, ?_⟩⟩
  · have := hq.1 z3
    rw [decide_eq_false (fun g => g ((lN_le0 (by omega)).mp z4))] at this
    unfold w_M_strip_B45
    exact t_M_truth (b := false) this
  · have := hq.1 z3
    rw [decide_eq_true (show wz f r n t' w' t' (fun _ => 0) ≠ 0 from fun g => z4 ((lN_le0 (by omega)).mpr g))] at this
    unfold w_M_strip_B45
    exact t_M_truth (b := true) this
  · obtain ⟨fd, ky, L, o2, o3, o4, o5, o6⟩ := c2.2.2.2.1
    rw [o4]
    refine hq.2 ?_
    have : v' ≠ 0 := fun g => z3 (by rw [g]; rfl)
    rw [show v' = 1 from by omega]
    rfl
theorem t_M_walks {f : Nat → Int32} {r n : Nat} {t w : Int32} {Q : Int64 → Hp → Prop} (hM : Mrc h r n) (hf : gI h 86 = f) (hF : FB f n) (hN : NB f) (hV : SV f r n h) (hq0 : isSt t w = false → Q (-1) h)
    (hq : ∀ h' t' w', t' ≤ 12 → w' ≤ 12 → t = nI t' → w = nI w' → Fr [92, 93, 94, 95, 96] [38, 39, 40, 41] [97] [] h h' → CV f r n t' w' h' → Q (lN (wz f r n t' w' t' (fun _ => 0))) h') : w_M_walks 81 t w h Q := by
  unfold w_M_walks
  unfold isSt at hq0
  refine t_M_isStrip ⟨fun z => hq0 z, fun z => ⟨M_K hM.1, ?_⟩⟩
  obtain ⟨t', w', ht, hw, rfl, rfl⟩ := isStrip_nI z
  refine t_M_laysStrip hM hf hF hN ht hw hV (fun h2 f2 c2 => ?_)
  have hM2 := fr_Mrc f2 (by decide) (by decide) (by decide) hM
  obtain ⟨a1, a2, a3⟩ := M_ways hM2.1
  rw [a1, a3, show ix (0 : Int32) = 0 from rfl, (CV_0 c2).1]
  exact ⟨M_K hM2.1, a2, vp_in_nI (n := 0) (by omega) (by omega), hq h2 t' w' ht hw rfl rfl f2 c2⟩
theorem t_M_best {f : Nat → Int32} {r n : Nat} {t w : Int32} {Q : Int32 → Hp → Prop} (hM : Mrc h r n) (hf : gI h 86 = f) (hF : FB f n) (hN : NB f) (hV : SV f r n h) (hq0 : isSt t w = false → Q (-1000001) h)
    (hq : ∀ h' t' w', t' ≤ 12 → w' ≤ 12 → t = nI t' → w = nI w' → Fr [92, 93, 94, 95, 96] [38, 39, 40, 41] [97] [] h h' → CV f r n t' w' h' → Q (if wz f r n t' w' t' (fun _ => 0) ≠ 0 then rz f r n t' w' t' (fun _ => 0) else -1000001) h') : w_M_best 81 t w h Q := by
  have hn := hM.2.2.2.2.2
  unfold w_M_best
  unfold isSt at hq0
  refine t_M_isStrip ⟨fun z => hq0 z, fun z => ⟨M_K hM.1, ?_⟩⟩
  obtain ⟨t', w', ht, hw, rfl, rfl⟩ := isStrip_nI z
  refine t_M_laysStrip hM hf hF hN ht hw hV (fun h2 f2 c2 => ?_)
  have hM2 := fr_Mrc f2 (by decide) (by decide) (by decide) hM
  obtain ⟨a1, a2, a3⟩ := M_ways hM2.1
  obtain ⟨b1, b2, b3⟩ := M_rest hM2.1
  have hq := hq h2 t' w' ht hw rfl rfl f2 c2
  have vl := wz_lt (f := f) (r := r) (t := t') (w := w') (m := t') hn ht (fun _ => 0)
  rw [a1, a3, b1, b3, show ix (0 : Int32) = 0 from rfl, (CV_0 c2).1, (CV_0 c2).2]
  refine ⟨M_K hM2.1, a2, vp_in_nI (n := 0) (by omega) (by omega), fun z4 => ?_, fun z4 => ⟨b2, vp_in_nI (n := 0) (by omega) (by omega), ?_⟩⟩
  · rw [if_neg (fun g => g ((lN_le0 (by omega)).mp z4))] at hq
    exact hq
  · rw [if_pos (fun g => z4 ((lN_le0 (by omega)).mpr g))] at hq
    exact hq
theorem t_M_narrow {f : Nat → Int32} {r n : Nat} {t : Int32} {Q : Int32 → Hp → Prop} (hM : Mrc h r n) (hf : gI h 86 = f) (hF : FB f n) (hN : NB f) (hV : SV f r n h) (hq0 : (decide (0 ≤ t) && decide (t ≤ 12)) = false → Q (-1) h)
    (hq : ∀ h' t', t' ≤ 12 → t = nI t' → Fr [88, 92, 93, 94, 95, 96] [38, 39, 40, 41] [97] [] h h' → SV f r n h' → Q (if cntL f r n (PL n t') = 0 then -1 else lst (fun w => decide (wz f r n t' w t' (fun _ => 0) ≠ 0)) 13 0) h') : w_M_narrow 81 t h Q := by
  have hn := hM.2.2.2.2.2
  unfold w_M_narrow
  refine t_M_isIn ⟨fun z => hq0 z, fun z => ⟨M_K hM.1, ?_⟩⟩
  obtain ⟨t', ht, rfl⟩ := in_nI (k := 12) (v := t) (M := 12) rfl z
  refine t_M_plansOf hM (by omega) (fun f2 => ?_)
  have g2 : Fr [88, 92, 93, 94, 95, 96] [38, 39, 40, 41] [97] [] h (sA h 88 f2) := fr_sA _ _ (by simp)
  have v2 : SV f r n (sA h 88 f2) := SV_fr (as := [88]) (fs := []) (js := []) (gs := []) hV (fr_sA _ _ (by simp)) (by decide) (by decide) (by decide) (by decide) (by decide) (by decide) (by decide) (by decide) (by decide) (by decide)
  have hle := cntL_le f r n (PL n t')
  have h2 := PL_le (n := n) (t := t') hn (by omega)
  rw [hf]
  refine ⟨fun z2 => ?_, fun z2 => ?_⟩
  · have := hq _ t' ht rfl g2 v2
    rw [if_pos ((nI_eq (b := 0) (by omega) (by omega)).mp z2)] at this
    exact this
  · have e0 : cntL f r n (PL n t') ≠ 0 := fun g => z2 (by rw [g]; rfl)
    have key : ∀ m w, w + m = 13 → ∀ s, Fr [88, 92, 93, 94, 95, 96] [38, 39, 40, 41] [97] [] h s → SV f r n s → (∀ h', Fr [88, 92, 93, 94, 95, 96] [38, 39, 40, 41] [97] [] h h' → SV f r n h' → Q (lst (fun w => decide (wz f r n t' w t' (fun _ => 0) ≠ 0)) m w) h') → w_M_narrow_L22 Q 81 (nI t') (m + 1) (nI w) s := by
      intro m
      induction m with
      | zero =>
        intro w hw s fs vs hq
        unfold w_M_narrow_L22
        exact ⟨fun _ => hq s fs vs, fun z => absurd (nI_lt (a := 12) (by omega) (by omega)) z⟩
      | succ m ih =>
        intro w hw s fs vs hq
        have hMs := fr_Mrc fs (by decide) (by decide) (by decide) hM
        unfold w_M_narrow_L22
        refine ⟨fun z => absurd z (nI_nlt (a := 12) (b := w) (by omega) (by omega)), fun _ => ⟨M_K hMs.1, t_M_laysStrip hMs ((fr_I fs (x := 86) (by decide) (by decide)).trans hf) hF hN ht (by omega) vs (fun h3 f3 c3 => ?_)⟩⟩
        have fs3 := fr_trans fs (fr_mono (as' := [88, 92, 93, 94, 95, 96]) (fs' := [38, 39, 40, 41]) (js' := [97]) (gs' := []) f3 (by simp) (by simp) (by simp) (by simp))
        have hM3 := fr_Mrc fs3 (by decide) (by decide) (by decide) hM
        have vs3 : SV f r n h3 := Or.inr ⟨t', w, ht, by omega, c3⟩
        obtain ⟨a1, a2, a3⟩ := M_ways hM3.1
        have vl := wz_lt (f := f) (r := r) (t := t') (w := w) (m := t') hn ht (fun _ => 0)
        rw [a1, a3, show ix (0 : Int32) = 0 from rfl, (CV_0 c3).1, nI_1]
        refine ⟨M_K hM3.1, a2, vp_in_nI (n := 0) (by omega) (by omega), fun z4 => ?_, fun z4 => ?_⟩
        · refine ih (w + 1) (by omega) h3 fs3 vs3 (fun h' f' v' => ?_)
          have := hq h' f' v'
          rw [lst, decide_eq_false (fun g => g ((lN_le0 (by omega)).mp z4))] at this
          exact this
        · have := hq h3 fs3 vs3
          rw [lst, decide_eq_true (show wz f r n t' w t' (fun _ => 0) ≠ 0 from fun g => z4 ((lN_le0 (by omega)).mpr g))] at this
          exact this
    refine ⟨14, key 13 0 (by omega) _ g2 v2 (fun h' f' v' => ?_)⟩
    have := hq h' t' ht rfl f' v'
    rw [if_neg e0] at this
    exact this
