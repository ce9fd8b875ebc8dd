/-! The reference's plans of fractions -/
variable {h : Hp}
theorem barS_w {f : Nat → Int32} {b : Nat → Int} {n s : Nat} {w : (Nat → Int) × Int} (hF : FB f n) (hb : ∀ o, o < 3 → (b o).natAbs ≤ 20) (h : brS f b n s = some w) : cnS (bS s) n ≤ 3 ∧ barS f b (bS s) n 3 = some w ∧ 0 < w.2 ∧ w.2 ≤ 48000 ∧ ∀ c, 0 ≤ w.1 c ∧ w.1 c ≤ 48000 := by
  unfold brS at h
  by_cases e : cnS (bS s) n ≤ 3
  · rw [if_pos e] at h
    obtain ⟨-, k2, -, k4, -⟩ := barS_some hF hb (by omega) e h
    exact ⟨e, h, k2.1, (k4 e).1, (k4 e).2⟩
  · rw [if_neg e] at h; cases h
/-- the best corner stands -/
def CB (f : Nat → Int32) (n : Nat) (h : Hp) (o : Option (Nat × (Nat → Int) × Int)) : Prop := ∀ v, o = some v → gL h 81 54 = lI (rdU (Gn f v.2.1 n) v.2.2) ∧ gL h 81 55 = lI (rdL (Gn f v.2.1 n) v.2.2) ∧ gI h 81 56 = nI v.1 ∧ (∀ c, c < n → gL h 103 c = lI (rdU (v.2.1 c) v.2.2) ∧ gL h 104 c = lI (rdL (v.2.1 c) v.2.2)) ∧ 0 < v.2.2 ∧ v.2.2 ≤ 48000 ∧ (∀ c, 0 ≤ v.2.1 c ∧ v.2.1 c ≤ 48000) ∧ v.1 < 256
theorem CB_fr {f : Nat → Int32} {n : Nat} {h' : Hp} {o : Option (Nat × (Nat → Int) × Int)} {as fs js gs : List Nat} (a : CB f n h o) (fr : Fr as fs js gs h h') (h1 : 81 ∉ as) (h2 : 81 ∉ js) (h3 : 103 ∉ js) (h4 : 104 ∉ js) (h5 : 56 ∉ fs) (h6 : 54 ∉ gs) (h7 : 55 ∉ gs) : CB f n h' o := fun v hv => by
  have := a v hv
  rw [fr_G fr h2 h6, fr_G fr h2 h7, fr_F fr h1 h5, fr_L fr (x := 103) h3 (by decide), fr_L fr (x := 104) h4 (by decide)]
  exact this
theorem t_lc_take {f : Nat → Int32} {r n s : Nat} {w : (Nat → Int) × Int} {Q : Bool → Hp → Prop} {k11 : Int32 → Hp → Prop} {k : Nat} (hM : Mrc h r n) (hs : s < 256) (hw : 0 < w.2 ∧ w.2 ≤ 48000 ∧ ∀ c, 0 ≤ w.1 c ∧ w.1 c ≤ 48000) (e1 : gL h 81 52 = lI (rdU (Gn f w.1 n) w.2)) (e2 : gL h 81 53 = lI (rdL (Gn f w.1 n) w.2)) (ul : ∀ c, c < n → gL h 101 c = lI (rdU (w.1 c) w.2) ∧ gL h 102 c = lI (rdL (w.1 c) w.2)) (hk : gI h 81 58 = nI k)
    (hq : ∀ h', Fr [] [56, 58] [103, 104] [54, 55] h h' → gI h' 81 58 = nI (k + 1) → CB f n h' (some (s, w)) → k11 (nI (s + 1)) h') : w_M_laysCorners_B76 Q k11 81 (nI s) h := by
  have hn := hM.2.2.2.2.2
  unfold w_M_laysCorners_B76
  rw [gL_sL, if_neg (by decide), e1, e2]
  refine ⟨M_K hM.1, ?_⟩
  have f1 : Fr [] [56, 58] [103, 104] [54, 55] h (sI (sL (sL h 81 54 (lI (rdU (Gn f w.1 n) w.2))) 81 55 (lI (rdL (Gn f w.1 n) w.2))) 81 56 (nI s)) := fr_trans (fr_trans (fr_sL _ _ (Or.inr ⟨rfl, by simp⟩)) (fr_sL _ _ (Or.inr ⟨rfl, by simp⟩))) (fr_sI _ _ (Or.inr ⟨rfl, by simp⟩))
  have k54 : gL (sI (sL (sL h 81 54 (lI (rdU (Gn f w.1 n) w.2))) 81 55 (lI (rdL (Gn f w.1 n) w.2))) 81 56 (nI s)) 81 54 = lI (rdU (Gn f w.1 n) w.2) := by rw [gL_sI, gL_sL, if_neg (by decide), gL_sL, if_pos ⟨rfl, rfl⟩]
  have k55 : gL (sI (sL (sL h 81 54 (lI (rdU (Gn f w.1 n) w.2))) 81 55 (lI (rdL (Gn f w.1 n) w.2))) 81 56 (nI s)) 81 55 = lI (rdL (Gn f w.1 n) w.2) := by rw [gL_sI, gL_sL, if_pos ⟨rfl, rfl⟩]
  have k56 : gI (sI (sL (sL h 81 54 (lI (rdU (Gn f w.1 n) w.2))) 81 55 (lI (rdL (Gn f w.1 n) w.2))) 81 56 (nI s)) 81 56 = nI s := by rw [gI_sI, if_pos ⟨rfl, rfl⟩]
  have k58 : gI (sI (sL (sL h 81 54 (lI (rdU (Gn f w.1 n) w.2))) 81 55 (lI (rdL (Gn f w.1 n) w.2))) 81 56 (nI s)) 81 58 = nI k := by rw [gI_sI, if_neg (by decide), gI_sL, gI_sL]; exact hk
  revert f1 k54 k55 k56 k58
  generalize sI (sL (sL h 81 54 (lI (rdU (Gn f w.1 n) w.2))) 81 55 (lI (rdL (Gn f w.1 n) w.2))) 81 56 (nI s) = h1
  intro f1 k54 k55 k56 k58
  have hM1 := fr_Mrc f1 (by decide) (by decide) (by decide) hM
  refine loop_0 (fun m c x => w_M_laysCorners_L99 Q k11 81 (nI s) m (nI c) x) (fun c x => Fr [] [] [103, 104] [] h1 x ∧ ∀ c', c' < c → gL x 103 c' = lI (rdU (w.1 c') w.2) ∧ gL x 104 c' = lI (rdL (w.1 c') w.2)) n _ ⟨fr_refl _ _ _ _ _, fun c' hc' => absurd hc' (Nat.not_lt_zero _)⟩ ?_ ?_
  · rintro m x ⟨fx, ex⟩
    have hMx := fr_Mrc fx (by decide) (by decide) (by decide) hM1
    unfold w_M_laysCorners_L99
    refine ⟨M_K hMx.1, fun _ => ?_, fun z => absurd (loop_le hMx.2.2.1) z⟩
    unfold w_M_laysCorners_B137
    rw [fr_F fx (by decide) (by decide), k58, nI_1, nI_1]
    refine ⟨M_K hMx.1, hq _ (fr_trans (fr_trans f1 (fr_mono fx (by simp) (by simp) (by simp) (by simp))) (fr_sI _ _ (Or.inr ⟨rfl, by simp⟩))) ?_ (fun v hv => ?_)⟩
    · rw [gI_sI, if_pos ⟨rfl, rfl⟩]
    · injection hv with hv
      rw [← hv]
      refine ⟨?_, ?_, ?_, fun c hc => ?_, hw.1, hw.2.1, hw.2.2, hs⟩
      · rw [gL_sI, fr_G fx (by decide) (by decide)]; exact k54
      · rw [gL_sI, fr_G fx (by decide) (by decide)]; exact k55
      · rw [gI_sI, if_neg (by decide), fr_F fx (by decide) (by decide)]; exact k56
      · rw [gL_sI]; exact ex c hc
  · rintro m c x hc ⟨fx, ex⟩ ih
    have hMx := fr_Mrc fx (by decide) (by decide) (by decide) hM1
    obtain ⟨u1, u2, u3⟩ := M_upper hMx.1
    obtain ⟨l1, l2, l3⟩ := M_lower hMx.1
    obtain ⟨p1, p2, p3⟩ := M_cornerUpper hMx.1
    obtain ⟨q1, q2, q3⟩ := M_cornerLower hMx.1
    have v1 := (ul c hc).1
    have v2 := (ul c hc).2
    unfold w_M_laysCorners_L99
    refine ⟨M_K hMx.1, fun z => absurd (hMx.2.2.1 ▸ z) (nI_ge hc (by omega)), fun _ => ?_⟩
    rw [u1, u3, l1, l3, p1, p3, q1, q3, ix_nI (by omega), nI_1, gL_sL, if_neg (fun y => absurd y.1 (by decide)), fr_L fx (x := 101) (by decide) (by decide), fr_L fx (x := 102) (by decide) (by decide), fr_L f1 (x := 101) (by decide) (by decide), fr_L f1 (x := 102) (by decide) (by decide), v1, v2]
    refine ⟨u2, vp_in_nI (by omega) (by omega), p2, vp_in_nI (by omega) (by omega), l2, vp_in_nI (by omega) (by omega), q2, vp_in_nI (by omega) (by omega), ih _ ⟨fr_trans fx (fr_trans (fr_sL _ _ (Or.inl (by simp))) (fr_sL _ _ (Or.inl (by simp)))), fun c' hc' => ⟨?_, ?_⟩⟩⟩
    · rw [gL_sL, if_neg (fun y => absurd y.1 (by decide)), gL_sL]
      by_cases g : c' = c
      · rw [if_pos ⟨rfl, g⟩, g]
      · rw [if_neg (fun y => g y.2)]; exact (ex c' (by omega)).1
    · rw [gL_sL]
      by_cases g : c' = c
      · rw [if_pos ⟨rfl, g⟩, g]
      · rw [if_neg (fun y => g y.2), gL_sL, if_neg (fun y => absurd y.1 (by decide))]; exact (ex c' (by omega)).2
theorem crF_le (f : Nat → Int32) (n : Nat) : ∀ s, (crF f n s).1 ≤ s ∧ ((crF f n s).1 = 0 ↔ (crF f n s).2 = none) := by
  intro s
  induction s with
  | zero => exact ⟨Nat.le_refl _, ⟨fun _ => rfl, fun _ => rfl⟩⟩
  | succ s ih =>
    rw [crF]
    cases brS f (bN f) n s with
    | none => exact ⟨Nat.le_succ_of_le ih.1, ih.2⟩
    | some w =>
      dsimp only
      refine ⟨by omega, ⟨fun h => by omega, fun h => ?_⟩⟩
      cases e : (crF f n s).2 with
      | none => rw [e] at h; cases h
      | some v =>
        rw [e] at h
        dsimp only at h
        split at h <;> cases h
theorem t_M_laysCorners {f : Nat → Int32} {r n : Nat} {Q : Bool → Hp → Prop} (hM : Mrc h r n) (hf : gI h 86 = f) (hF : FB f n) (hN : NB f) (hG : GB f n) (hZ : ZB f r) (hq : ∀ h', Fr [105, 106] [56, 58] [100, 101, 102, 103, 104] [52, 53, 54, 55] h h' → gI h' 81 58 = nI (crF f n (2 ^ n)).1 → CB f n h' (crF f n (2 ^ n)).2 → Q (decide ((crF f n (2 ^ n)).1 ≠ 0)) h') : w_M_laysCorners 81 h Q := by
  have hn := hM.2.2.2.2.2
  have hr := hM.2.2.2.2.1
  have hr1 := hM.2.2.2.1
  have p8 := pow8 hn
  have hbb := bN_bd hN
  unfold w_M_laysCorners
  have f0 : Fr [] [58] [] [] h (sI h 81 58 0) := fr_sI _ _ (Or.inr ⟨rfl, by simp⟩)
  have hM0 := fr_Mrc f0 (by decide) (by decide) (by decide) hM
  refine ⟨M_K hM.1, t_M_aimsAtNeed hM0 ((fr_I f0 (x := 86) (by decide) (by decide)).trans hf) (fun h1 f1 a1 => ?_)⟩
  have f01 : Fr [105, 106] [56, 58] [100, 101, 102, 103, 104] [52, 53, 54, 55] h h1 := fr_trans (fr_mono f0 (by simp) (by simp) (by simp) (by simp)) (fr_mono f1 (by simp) (by simp) (by simp) (by simp))
  have k1 : gI h1 81 58 = 0 := by rw [fr_F f1 (by decide) (by decide), gI_sI, if_pos ⟨rfl, rfl⟩]
  refine loop_0 (fun m s x => w_M_laysCorners_L11 Q 81 m (nI s) x) (fun s x => Fr [105, 106] [56, 58] [100, 101, 102, 103, 104] [52, 53, 54, 55] h x ∧ (∀ o, o < r → (gI x 106 o).toInt = bN f o) ∧ gI x 81 58 = nI (crF f n s).1 ∧ CB f n x (crF f n s).2) (2 ^ n) _ ⟨f01, a1, k1, fun v hv => by cases hv⟩ ?_ ?_
  · rintro m x ⟨fx, ax, kx, cx⟩
    have hMx := fr_Mrc fx (by decide) (by decide) (by decide) hM
    have cl := crF_le f n (2 ^ n)
    have := hq x fx kx cx
    unfold w_M_laysCorners_L11
    rw [hMx.2.2.1, shl8 hn, kx]
    refine ⟨M_K hMx.1, fun _ => ⟨fun z => ?_, fun z => ?_⟩, fun z => absurd (Int32.le_refl _) z⟩
    · have e : (crF f n (2 ^ n)).1 = 0 := by
        by_cases g : (crF f n (2 ^ n)).1 = 0
        · exact g
        · exact absurd z (nI_nle (by omega) (by omega))
      rw [decide_eq_false (fun g => g e)] at this
      exact this
    · have e : (crF f n (2 ^ n)).1 ≠ 0 := fun g => z (by rw [g]; exact Int32.le_refl _)
      rw [decide_eq_true e] at this
      exact this
  · rintro m s x hs ⟨fx, ax, kx, cx⟩ ih
    have hMx := fr_Mrc fx (by decide) (by decide) (by decide) hM
    have hfx := (fr_I fx (x := 86) (by decide) (by decide)).trans hf
    have c8 := cnS_8 hn hs
    have cl := cnS_le (bS s) n
    unfold w_M_laysCorners_L11
    rw [hMx.2.2.1, shl8 hn, nI_1]
    refine ⟨M_K hMx.1, fun z => absurd z (nI_ge hs (by omega)), fun _ => t_M_many (by omega) ⟨M_K hMx.1, ?_⟩⟩
    rw [c8, hMx.2.1]
    have none_ : brS f (bN f) n s = none → ∀ x', Fr [105] [] [100, 101, 102] [52, 53] x x' → w_M_laysCorners_L11 Q 81 m (nI (s + 1)) x' := fun hno x' f' => ih x' ⟨fr_trans fx (fr_mono f' (by simp) (by simp) (by simp) (by simp)), fun o ho => by rw [fr_I f' (x := 106) (by decide) (by decide)]; exact ax o ho, by rw [fr_F f' (by decide) (by decide), crF, hno]; exact kx, by rw [crF, hno]; exact CB_fr cx f' (by decide) (by decide) (by decide) (by decide) (by decide) (by decide) (by decide)⟩
    refine ⟨fun z => none_ ?_ x (fr_refl _ _ _ _ _), fun z => ?_⟩
    · have lt : r < cnS (bS s) n := by
        by_cases g : r < cnS (bS s) n
        · exact g
        · exact absurd z (nI_nlt (by omega) (by omega))
      unfold brS
      by_cases g : cnS (bS s) n ≤ 3
      · rw [if_pos g]; exact dep_many hF hbb hr1 hn hZ lt g
      · rw [if_neg g]
    · have le : cnS (bS s) n ≤ r := Nat.le_of_not_lt (fun g => z (nI_lt g (by omega)))
      have eb : brS f (bN f) n s = barS f (bN f) (bS s) n 3 := by unfold brS; rw [if_pos (by omega)]
      refine t_M_comesBy hMx hfx hF hbb hZ (bN_0 hZ) (by omega) le ax (fun x' f' e' => ⟨fun _ => none_ (eb.trans e') x' (fr_mono f' (by simp) (by simp) (by simp) (by simp)), fun y => absurd rfl y⟩) (fun w x' f' e' ul => ⟨fun y => absurd y (by decide), fun _ => ?_⟩)
      have ew := eb.trans e'
      obtain ⟨-, -, w1, w2, w3⟩ := barS_w hF hbb ew
      have hM' := fr_Mrc f' (by decide) (by decide) (by decide) hMx
      refine ⟨M_K hM'.1, t_M_gains hM' ((fr_I f' (x := 86) (by decide) (by decide)).trans hfx) hG w1 w2 w3 ul (fun x2 f2 g1 g2 => ?_)⟩
      have hM2 := fr_Mrc f2 (by decide) (by decide) (by decide) hM'
      have f12 : Fr [105] [] [100, 101, 102] [52, 53] x x2 := fr_trans (fr_mono f' (by simp) (by simp) (by simp) (by simp)) (fr_mono f2 (by simp) (by simp) (by simp) (by simp))
      have kx2 : gI x2 81 58 = nI (crF f n s).1 := (fr_F f12 (by decide) (by decide)).trans kx
      have cx2 := CB_fr cx f12 (by decide) (by decide) (by decide) (by decide) (by decide) (by decide) (by decide)
      have ul2 : ∀ c, c < n → gL x2 101 c = lI (rdU (w.1 c) w.2) ∧ gL x2 102 c = lI (rdL (w.1 c) w.2) := by
        rw [fr_L f2 (x := 101) (by decide) (by decide), fr_L f2 (x := 102) (by decide) (by decide)]
        exact ul
      have clS := crF_le f n s
      have take : (crF f n (s + 1)).2 = some (s, w) → w_M_laysCorners_B76 Q (w_M_laysCorners_L11 Q 81 m) 81 (nI s) x2 := fun e => by
        refine t_lc_take (w := w) hM2 (by omega) ⟨w1, w2, w3⟩ g1 g2 ul2 kx2 (fun x3 f3 k3 c3 => ih x3 ⟨fr_trans (fr_trans fx (fr_mono f12 (by simp) (by simp) (by simp) (by simp))) (fr_mono f3 (by simp) (by simp) (by simp) (by simp)), fun o ho => by rw [fr_I f3 (x := 106) (by decide) (by decide), fr_I f12 (x := 106) (by decide) (by decide)]; exact ax o ho, ?_, by rw [e]; exact c3⟩)
        rw [k3, crF, ew]
      rw [kx2]
      refine ⟨M_K hM2.1, fun y => take ?_, fun y => ?_⟩
      · have e0 : (crF f n s).2 = none := clS.2.mp ((nI_eq (b := 0) (by omega) (by omega)).mp y)
        rw [crF, ew]
        dsimp only
        rw [e0]
      · have e0 : (crF f n s).1 ≠ 0 := fun g => y (by rw [g]; rfl)
        cases ev : (crF f n s).2 with
        | none => exact absurd (clS.2.mpr ev) e0
        | some v =>
          obtain ⟨b1, b2, b3, b4, b5, b6, b7, b8⟩ := cx2 v ev
          have nb : ∀ (Y : Nat → Int), (∀ c, 0 ≤ Y c ∧ Y c ≤ 48000) → (Gn f Y n).natAbs ≤ 38016000 := fun Y hY => by
            have h1 := Gn_bd (K := 48000) hG (fun c => by have := hY c; omega : ∀ c, (Y c).natAbs ≤ 48000) n (Nat.le_refl _)
            have h2 : n * (99 * 48000) ≤ 8 * (99 * 48000) := Nat.mul_le_mul_right _ hn
            omega
          have n1 := nb w.1 w3
          have n2 := nb v.2.1 b7
          have r1 := rd_le (a := Gn f w.1 n) w1
          have r2 := rd_le (a := Gn f v.2.1 n) b5
          obtain ⟨-, -, -, p1, -⟩ := rd_sp (a := Gn f w.1 n) w1
          obtain ⟨-, -, -, p2, -⟩ := rd_sp (a := Gn f v.2.1 n) b5
          have m1 := mulA (a := rdU (Gn f w.1 n) w.2) (b := rdL (Gn f v.2.1 n) v.2.2) (A := 38016000) (B := 48000) (by omega) (by omega)
          have m2 := mulA (a := rdU (Gn f v.2.1 n) v.2.2) (b := rdL (Gn f w.1 n) w.2) (A := 38016000) (B := 48000) (by omega) (by omega)
          rw [g1, g2, b1, b2, lI_mul (by omega) (by omega) (by omega), lI_mul (by omega) (by omega) (by omega), lI_le (by omega) (by omega), rd_cmp w1 b5]
          refine ⟨fun z2 => ?_, fun z2 => take ?_⟩
          · unfold w_M_laysCorners_B137
            rw [kx2, nI_1, nI_1]
            refine ⟨M_K hM2.1, ih _ ⟨fr_trans (fr_trans fx (fr_mono f12 (by simp) (by simp) (by simp) (by simp))) (fr_sI _ _ (Or.inr ⟨rfl, by simp⟩)), fun o ho => ?_, ?_, ?_⟩⟩
            · rw [gI_sI, if_neg (fun y => absurd y.1 (by decide)), fr_I f12 (x := 106) (by decide) (by decide)]; exact ax o ho
            · rw [gI_sI, if_pos ⟨rfl, rfl⟩, crF, ew]
            · have e2 : (crF f n (s + 1)).2 = (crF f n s).2 := by
                rw [crF, ew]
                dsimp only
                rw [ev]
                dsimp only
                rw [if_pos z2]
              rw [e2]
              exact CB_fr (as := []) (fs := [58]) (js := []) (gs := []) cx2 (fr_sI _ _ (Or.inr ⟨rfl, by simp⟩)) (by decide) (by decide) (by decide) (by decide) (by decide) (by decide) (by decide)
          · rw [crF, ew]
            dsimp only
            rw [ev]
            dsimp only
            rw [if_neg z2]
