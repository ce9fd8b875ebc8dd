/-! Whether a set of columns comes to the aim: from the beginning -/
variable {h : Hp}
theorem KB_lt3 {k : Nat} (hk : k < 3) : KB k ≤ 1280000 := by
  match k, hk with
  | 0, _ => show 20 ≤ 1280000; omega
  | 1, _ => show 800 ≤ 1280000; omega
  | 2, _ => show 1280000 ≤ 1280000; omega
theorem t_M_comesBy {f : Nat → Int32} {b : Nat → Int} {s n r : Nat} {Q : Bool → Hp → Prop} (hM : Mrc h r n) (hf : gI h 86 = f) (hF : FB f n) (hb : ∀ o, o < 3 → (b o).natAbs ≤ 20) (hZ : ZB f r) (hb0 : ∀ o, r ≤ o → o < 3 → b o = 0) (hs : s < 256) (hcr : cnS (bS s) n ≤ r) (haim : ∀ o, o < r → (gI h 106 o).toInt = b o)
    (hq0 : ∀ h', Fr [105] [] [100, 101, 102] [] h h' → barS f b (bS s) n 3 = none → Q false h') (hq1 : ∀ w h', Fr [105] [] [100, 101, 102] [] h h' → barS f b (bS s) n 3 = some w → (∀ c, c < n → gL h' 101 c = lI (rdU (w.1 c) w.2) ∧ gL h' 102 c = lI (rdL (w.1 c) w.2)) → Q true h') : w_M_comesBy 81 (nI s) h Q := by
  have hr := hM.2.2.2.2.1
  have hn := hM.2.2.2.2.2
  obtain ⟨el1, el2⟩ := el_eq hF hb hr hcr hn hZ hb0
  have bd : ∀ o t, o < r → t < 5 → (Mm f b (bS s) n o t).natAbs ≤ 20 := fun o t ho ht => by
    unfold Mm
    split
    · rename_i g
      unfold aZ
      rw [if_pos (by omega)]
      have := hF (mb (bS s) n t) o (mb_sp g).1 (by omega)
      omega
    · split
      · exact hb o (by omega)
      · decide
  unfold w_M_comesBy
  refine loop_0 (fun m c (x : Int32 × Hp) => w_M_comesBy_L4 Q 81 (nI s) m x.1 (nI c) x.2) (fun c x => x.1 = nI (cnS (bS s) c) ∧ Fr [105] [] [101, 102] [] h x.2 ∧ (∀ c', c' < c → gL x.2 101 c' = 0 ∧ gL x.2 102 c' = 1) ∧ ∀ i, i < cnS (bS s) c → gI x.2 105 i = nI (mb (bS s) c i)) n (0, h) ⟨rfl, fr_refl _ _ _ _ _, fun c' hc' => absurd hc' (Nat.not_lt_zero _), fun i hi => absurd hi (Nat.not_lt_zero _)⟩ ?_ ?_
  · rintro m ⟨v2, h1⟩ ⟨e1, f1, c0, ch⟩
    dsimp only at e1 f1 c0 ch ⊢
    subst e1
    have hM1 := fr_Mrc f1 (by decide) (by decide) (by decide) hM
    have hf1 := (fr_I f1 (x := 86) (by decide) (by decide)).trans hf
    obtain ⟨a1, a2, a3⟩ := M_grid hM1.1
    obtain ⟨d1, d2, d3⟩ := M_chosen hM1.1
    obtain ⟨i1, i2, i3⟩ := M_aim hM1.1
    have up : ∀ h', Fr [] [] [100, 101, 102] [] h1 h' → Fr [105] [] [100, 101, 102] [] h h' := fun h' f' => fr_trans (fr_mono f1 (by simp) (by simp) (by simp) (by simp)) (fr_mono f' (by simp) (by simp) (by simp) (by simp))
    unfold w_M_comesBy_L4
    refine ⟨M_K hM1.1, fun _ => ⟨fun _ => ?_, fun z => absurd (by rw [hM1.2.1]; exact nI_le hcr (by omega)) z⟩, fun z => absurd (loop_le hM1.2.2.1) z⟩
    -- the grid is filled
    refine loop_0 (fun m o x => w_M_comesBy_L65 Q 81 (nI (cnS (bS s) n)) m (nI o) x) (fun o x => Fr [] [] [100] [] h1 x ∧ ∀ o' t, o' < o → t < 5 → gL x 100 (5 * o' + t) = lI (Mm f b (bS s) n o' t)) r h1 ⟨fr_refl _ _ _ _ _, fun o' t ho' => absurd ho' (Nat.not_lt_zero _)⟩ ?_ ?_
    · rintro m x ⟨fx, gx⟩
      have hMx := fr_Mrc fx (by decide) (by decide) (by decide) hM1
      unfold w_M_comesBy_L65
      refine ⟨M_K hMx.1, fun _ => ?_, fun z => absurd (loop_le hMx.2.1) z⟩
      -- the steps
      refine loop_0 (fun m k x => w_M_comesBy_L164 Q 81 (nI (cnS (bS s) n)) m (nI k) x) (fun k x => Fr [] [] [100] [] h1 x ∧ ∃ w, elR (Mm f b (bS s) n) r k = some w ∧ GR w r x) (cnS (bS s) n) x ⟨fx, _, rfl, fun o t ho ht => gx o t ho ht⟩ ?_ ?_
      · rintro m x ⟨fx, w, hw, gw⟩
        have hMx := fr_Mrc fx (by decide) (by decide) (by decide) hM1
        have ax := M_grid hMx.1
        have s4 := (elR_sp hr bd _ hcr w hw).2.2.2
        have wb : ∀ o t, o < r → t < 5 → (w o t).natAbs ≤ 3276800000000 := fun o t ho ht => by
          have h1 := s4 o t ho ht
          have h2 : KB (cnS (bS s) n) ≤ 3276800000000 := by
            unfold KB
            split <;> omega
          omega
        unfold w_M_comesBy_L164
        refine ⟨fun _ => ?_, fun z => absurd (Int32.le_refl _) z⟩
        refine loop_0 (fun m o x' => w_M_comesBy_L261 Q 81 (nI (cnS (bS s) n)) m (nI (cnS (bS s) n + o)) x') (fun o x' => x' = x ∧ ∀ o', cnS (bS s) n ≤ o' → o' < cnS (bS s) n + o → w o' 4 = 0) (r - cnS (bS s) n) x ⟨rfl, fun o' h1 h2 => by omega⟩ ?_ ?_
        · rintro m x' ⟨rfl, hz⟩
          unfold w_M_comesBy_L261
          rw [show cnS (bS s) n + (r - cnS (bS s) n) = r from by omega]
          refine ⟨M_K hMx.1, fun _ => ?_, fun z => absurd (loop_le hMx.2.1) z⟩
          exact t_cb_end hM1 hF hb hZ hb0 hcr hw (fun o ho hmo => hz o hmo (by omega)) fx gw c0 ch (fun h' f' e' => hq0 h' (up h' f') e') (fun w' h' f' e' g' => hq1 w' h' (up h' f') e' g')
        · rintro m o x' ho ⟨rfl, hz⟩ ih
          have wbo := wb (cnS (bS s) n + o) 4 (by omega) (by omega)
          unfold w_M_comesBy_L261
          rw [ax.1, ax.2.2, show (5 : Int32) = nI 5 from rfl, show (4 : Int32) = nI 4 from rfl, pk_mul, nI_add, nI_1, ix_nI (n := 5 * (cnS (bS s) n + o) + 4) (by omega), gw _ 4 (by omega) (by omega), lI_e0 (by omega)]
          refine ⟨M_K hMx.1, fun z => absurd (hMx.2.1 ▸ z) (nI_ge (by omega) (by omega)), fun _ => ⟨ax.2.1, vp_in_nI (by omega) (by omega), fun z => ih x' ⟨rfl, fun o' h1 h2 => ?_⟩, fun z => hq0 x' (up x' (fr_mono fx (by simp) (by simp) (by simp) (by simp))) (el2 (Or.inr ⟨w, hw, fun y => z (y.1 _ (by omega) (by omega))⟩))⟩⟩
          by_cases e : o' = cnS (bS s) n + o
          · rw [e]; exact z
          · exact hz o' h1 (by omega)
      · rintro m k x hk ⟨fx, w, hw, gw⟩ ih
        have hMx := fr_Mrc fx (by decide) (by decide) (by decide) hM1
        have ax := M_grid hMx.1
        have s4 := (elR_sp hr bd k (by omega) w hw).2.2.2
        have kb : KB k ≤ 1280000 := KB_lt3 (by omega)
        have fl := fpv_le (M := w) (i := k) (lines := r) (by omega)
        unfold w_M_comesBy_L164
        refine ⟨fun z => absurd z (nI_ge hk (by omega)), fun _ => ?_⟩
        have fin : w_M_comesBy_B203 Q (w_M_comesBy_L164 Q 81 (nI (cnS (bS s) n)) m) 81 (nI (cnS (bS s) n)) (nI k) (nI (fpv w k r)) x := by
          unfold w_M_comesBy_B203
          rw [hMx.2.1]
          refine ⟨M_K hMx.1, fun z => ?_, fun z => ?_⟩
          · have z := (nI_eq (by omega) (by omega)).mp z
            refine hq0 x (up x (fr_mono fx (by simp) (by simp) (by simp) (by simp))) (el2 (Or.inl ?_))
            have e1 : elR (Mm f b (bS s) n) r (k + 1) = none := by
              rw [elR, hw]
              dsimp only
              rw [if_neg (by omega)]
            have := elR_mono e1 (cnS (bS s) n - (k + 1))
            rwa [show k + 1 + (cnS (bS s) n - (k + 1)) = cnS (bS s) n from by omega] at this
          · have z : fpv w k r ≠ r := fun g => z (by rw [g])
            have lt : fpv w k r < r := by omega
            refine t_M_swapsRows hMx.1 gw hr (by omega) lt (fun x2 f2 g2 => ?_)
            have hM2 := fr_Mrc f2 (by decide) (by decide) (by decide) hMx
            refine t_cb_clear (K := KB k) hM2 g2 (by omega) (fun o t ho ht => ?_) kb (fun x3 f3 g3 => ih x3 ⟨fr_trans (fr_trans fx f2) f3, _, ?_, g3⟩)
            · unfold swp
              split
              · exact s4 _ t lt ht
              · split
                · exact s4 k t (by omega) ht
                · exact s4 o t ho ht
            · rw [elR, hw]
              dsimp only
              rw [if_pos lt]
        refine loop_0 (fun m p x' => w_M_comesBy_L172 Q (w_M_comesBy_L164 Q 81 (nI (cnS (bS s) n)) _) 81 (nI (cnS (bS s) n)) (nI k) m (nI (k + p)) x') (fun p x' => x' = x) (fpv w k r - k) x rfl ?_ ?_
        · rintro m' x' rfl
          unfold w_M_comesBy_L172
          rw [show k + (fpv w k r - k) = fpv w k r from by omega]
          refine ⟨M_K hMx.1, fun _ => fin, fun z => ?_⟩
          have lt : fpv w k r < r := Nat.lt_of_not_le (fun y => z (by rw [hMx.2.1]; exact nI_le y (by omega)))
          have wbo := s4 (fpv w k r) k lt (by omega)
          rw [ax.1, ax.2.2, show (5 : Int32) = nI 5 from rfl, pk_mul, nI_add, ix_nI (n := 5 * fpv w k r + k) (by omega), gw _ k lt (by omega), lI_e0 (by omega)]
          exact ⟨ax.2.1, vp_in_nI (by omega) (by omega), fun y => absurd y (fpv_sp (by omega) lt).2.1, fun _ => fin⟩
        · rintro m' p x' hp rfl ih2
          have wbo := s4 (k + p) k (by omega) (by omega)
          unfold w_M_comesBy_L172
          rw [ax.1, ax.2.2, show (5 : Int32) = nI 5 from rfl, pk_mul, nI_add, nI_1, ix_nI (n := 5 * (k + p) + k) (by omega), gw _ k (by omega) (by omega), lI_e0 (by omega)]
          exact ⟨M_K hMx.1, fun z => absurd (hMx.2.1 ▸ z) (nI_ge (by omega) (by omega)), fun _ => ⟨ax.2.1, vp_in_nI (by omega) (by omega), fun _ => ih2 x' rfl, fun y => absurd (fpv_lo (M := w) (i := k) (lines := r) (o := k + p) (by omega) (by omega) (by omega)) y⟩⟩
    · rintro m o x ho ⟨fx, gx⟩ ih
      have hMx := fr_Mrc fx (by decide) (by decide) (by decide) hM1
      unfold w_M_comesBy_L65
      refine ⟨M_K hMx.1, fun z => absurd (hMx.2.1 ▸ z) (nI_ge ho (by omega)), fun _ => ?_⟩
      refine loop_0 (fun m k x => w_M_comesBy_L76 Q (w_M_comesBy_L65 Q 81 (nI (cnS (bS s) n)) _) 81 (nI (cnS (bS s) n)) (nI o) m (nI k) x) (fun k x => Fr [] [] [100] [] h1 x ∧ ∀ o' t, (o' < o ∨ o' = o ∧ t < k) → t < 5 → gL x 100 (5 * o' + t) = lI (Mm f b (bS s) n o' t)) (cnS (bS s) n) x ⟨fx, fun o' t h1 h2 => gx o' t (by omega) h2⟩ ?_ ?_
      · rintro m2 x2 ⟨f2, g2⟩
        unfold w_M_comesBy_L76
        refine ⟨fun _ => ?_, fun z => absurd (Int32.le_refl _) z⟩
        refine loop_0 (fun m k x => w_M_comesBy_L115 Q (w_M_comesBy_L65 Q 81 (nI (cnS (bS s) n)) _) 81 (nI (cnS (bS s) n)) (nI o) m (nI (cnS (bS s) n + k)) x) (fun k x => Fr [] [] [100] [] h1 x ∧ ∀ o' t, (o' < o ∨ o' = o ∧ t < cnS (bS s) n + k) → t < 5 → gL x 100 (5 * o' + t) = lI (Mm f b (bS s) n o' t)) (4 - cnS (bS s) n) x2 ⟨f2, g2⟩ ?_ ?_
        · rintro m3 x3 ⟨f3, g3⟩
          unfold w_M_comesBy_L115
          rw [show cnS (bS s) n + (4 - cnS (bS s) n) = 4 from by omega] at g3 ⊢
          refine ⟨fun _ => ?_, fun z => absurd (Int32.le_refl _) z⟩
          rw [fr_R f3, fr_K f3, fr_N f3, a1, a3, i1, i3, show (5 : Int32) = nI 5 from rfl, show (4 : Int32) = nI 4 from rfl, pk_mul, nI_add, nI_1, ix_nI (n := 5 * o + 4) (by omega), ix_nI (n := o) (by omega), fr_I f3 (x := 106) (by decide) (by decide), fr_I f1 (x := 106) (by decide) (by decide), i_l, haim o ho]
          refine ⟨M_K hM1.1, i2, vp_in_nI (by omega) (by omega), a2, vp_in_nI (by omega) (by omega), ih _ ⟨fr_trans f3 (fr_sL _ _ (Or.inl (by simp))), fun o' t ho' ht => ?_⟩⟩
          rw [gL_sL]
          by_cases e : o' = o ∧ t = 4
          · rw [if_pos ⟨rfl, by omega⟩, e.1, e.2]
            unfold Mm
            rw [if_neg (by omega), if_pos rfl]
          · rw [if_neg (fun y => by have := y.2; omega)]
            exact g3 o' t (by omega) ht
        · rintro m3 k x3 hk ⟨f3, g3⟩ ih3
          unfold w_M_comesBy_L115
          refine ⟨fun z => absurd z (nI_ge (b := 4) (by omega) (by omega)), fun _ => ?_⟩
          rw [fr_R f3, fr_K f3, fr_N f3, a1, a3, show (5 : Int32) = nI 5 from rfl, pk_mul, nI_add, nI_1, ix_nI (n := 5 * o + (cnS (bS s) n + k)) (by omega)]
          refine ⟨M_K hM1.1, a2, vp_in_nI (by omega) (by omega), ih3 _ ⟨fr_trans f3 (fr_sL _ _ (Or.inl (by simp))), fun o' t ho' ht => ?_⟩⟩
          rw [gL_sL]
          by_cases e : o' = o ∧ t = cnS (bS s) n + k
          · rw [if_pos ⟨rfl, by omega⟩, e.1, e.2]
            unfold Mm
            rw [if_neg (by omega), if_neg (by omega)]
            rfl
          · rw [if_neg (fun y => by have := y.2; omega)]
            exact g3 o' t (by omega) ht
      · rintro m2 k x2 hk ⟨f2, g2⟩ ih2
        have mm := (mb_sp hk).1
        unfold w_M_comesBy_L76
        refine ⟨fun z => absurd z (nI_ge hk (by omega)), fun _ => ?_⟩
        have hM2 := fr_Mrc f2 (by decide) (by decide) (by decide) hM1
        rw [fr_R f2, fr_K f2, fr_N f2, d1, d3, a1, ix_nI (n := k) (by omega), fr_I f2 (x := 105) (by decide) (by decide), ch k hk]
        refine ⟨M_K hM1.1, d2, vp_in_nI (by omega) (by omega), t_M_numberOf hM2.1 (by omega) ?_⟩
        rw [fr_K f2, fr_N f2, a3, show (5 : Int32) = nI 5 from rfl, pk_mul, nI_add, nI_1, ix_nI (n := 5 * o + k) (by omega), fr_I f2 (x := 86) (by decide) (by decide), hf1, i_l]
        refine ⟨a2, vp_in_nI (by omega) (by omega), ih2 _ ⟨fr_trans f2 (fr_sL _ _ (Or.inl (by simp))), fun o' t ho' ht => ?_⟩⟩
        rw [gL_sL]
        by_cases e : o' = o ∧ t = k
        · rw [if_pos ⟨rfl, by omega⟩, e.1, e.2]
          unfold Mm aZ
          rw [if_pos hk, if_pos (by omega)]
        · rw [if_neg (fun y => by have := y.2; omega)]
          exact g2 o' t (by omega) ht
  · rintro m c ⟨v2, h1⟩ hc ⟨e1, f1, c0, ch⟩ ih
    dsimp only at e1 f1 c0 ch ⊢
    subst e1
    have hM1 := fr_Mrc f1 (by decide) (by decide) (by decide) hM
    obtain ⟨u1, u2, u3⟩ := M_upper hM1.1
    obtain ⟨l1, l2, l3⟩ := M_lower hM1.1
    obtain ⟨d1, d2, d3⟩ := M_chosen hM1.1
    have cl := cnS_le (bS s) c
    have bt := bit_nI s hs c (by omega)
    have ul : ∀ c', c' < c + 1 → gL (sL (sL h1 101 c 0) 102 c 1) 101 c' = 0 ∧ gL (sL (sL h1 101 c 0) 102 c 1) 102 c' = 1 := fun c' hc' => by
      by_cases e : c' = c
      · refine ⟨?_, ?_⟩
        · rw [gL_sL, if_neg (fun y => absurd y.1 (by decide)), gL_sL, if_pos ⟨rfl, e⟩]
        · rw [gL_sL, if_pos ⟨rfl, e⟩]
      · have := c0 c' (by omega)
        refine ⟨?_, ?_⟩
        · rw [gL_sL, if_neg (fun y => absurd y.1 (by decide)), gL_sL, if_neg (fun y => e y.2)]; exact this.1
        · rw [gL_sL, if_neg (fun y => e y.2), gL_sL, if_neg (fun y => absurd y.1 (by decide))]; exact this.2
    have f2 : Fr [105] [] [101, 102] [] h (sL (sL h1 101 c 0) 102 c 1) := fr_trans f1 (fr_trans (fr_sL _ _ (Or.inl (by simp))) (fr_sL _ _ (Or.inl (by simp))))
    unfold w_M_comesBy_L4
    refine ⟨M_K hM1.1, fun z => absurd (hM1.2.2.1 ▸ z) (nI_ge hc (by omega)), fun _ => ?_⟩
    rw [u1, u3, l1, l3, d1, d3, ix_nI (n := c) (by omega), ix_nI (n := cnS (bS s) c) (by omega), nI_1 c, nI_1, bt]
    refine ⟨u2, vp_in_nI (by omega) (by omega), l2, vp_in_nI (by omega) (by omega), fun z => ?_, fun z => ?_⟩
    · have hS : bS s c = false := by
        unfold bS
        cases g : s.testBit c
        · rfl
        · rw [g] at z; exact absurd z (by decide)
      refine ih (nI (cnS (bS s) c), _) ⟨by rw [cnS_f hS], f2, ul, fun i hi => ?_⟩
      rw [cnS_f hS] at hi
      rw [mb_f hS]
      exact ch i hi
    · have hS : bS s c = true := by
        unfold bS
        cases g : s.testBit c
        · rw [g] at z; exact absurd rfl z
        · rfl
      refine ⟨d2, vp_in_nI (by omega) (by omega), ih (nI (cnS (bS s) c + 1), sI (sL (sL h1 101 c 0) 102 c 1) 105 (cnS (bS s) c) (nI c)) ⟨by rw [cnS_t hS], fr_trans f2 (fr_sI _ _ (Or.inl (by simp))), ul, fun i hi => ?_⟩⟩
      rw [cnS_t hS] at hi
      dsimp only
      rw [mb_t hS, gI_sI]
      by_cases e : i = cnS (bS s) c
      · rw [if_pos ⟨rfl, e⟩, if_pos e]
      · rw [if_neg (fun y => e y.2), if_neg e]
        exact ch i (by omega)
