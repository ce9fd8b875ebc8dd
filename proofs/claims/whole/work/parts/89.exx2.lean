/-! The class lists small plans -/
variable {h : Hp}
theorem t_Ex_keyOf {f : Nat → Int32} {r n c : Nat} {Q : Int32 → Hp → Prop} (c0 : CN f r n h) (hc : c < n) (hq : Q ((f (3 * c + 0) * 64 + f (3 * c + 1)) * 64 + f (3 * c + 2)) h) : w_Ex_keyOf 60 (nI c) h Q := by
  have m := c0.1
  have hn := c0.2.1.2.2.2.2.2
  have C := c0.2.1.1
  have ef := c0.2.2.1
  unfold w_Ex_keyOf
  rw [X_r60_0 m]
  refine ⟨X_k60 m, C.1, t_Co_numberOf (k := 0) C (by omega) ?_⟩
  rw [X_r60_0 m]
  refine ⟨X_k60 m, C.1, t_Co_numberOf (k := 1) C (by omega) ?_⟩
  rw [X_r60_0 m]
  refine ⟨X_k60 m, C.1, t_Co_numberOf (k := 2) C (by omega) ?_⟩
  rw [show gI h (21 + 1) = f from ef]
  exact hq
theorem t_Ex_extend {f : Nat → Int32} {r n i : Nat} {Q : Int32 → Hp → Prop} (c0 : CN f r n h) (hi : i < xS n 3) (hi2 : i < xN n i) (e0 : EX f n (xN n i) h) (hq : ∀ h', Fx [62, 63, 64] [] h h' → EX f n (xN n (i + 1)) h' → Q (nI (xN n (i + 1))) h') : w_Ex_extend 60 (nI i) (nI (xN n i)) h Q := by
  have m := c0.1
  have hn := c0.2.1.2.2.2.2.2
  obtain ⟨b1, b2, b3⟩ := xM_b n hn i hi
  have me := xM_e n hn i hi
  unfold w_Ex_extend
  rw [X_r60_2 m, X_n62 m, ix_nI (by omega), (e0 i hi2).1, xd_and _ (by omega)]
  refine ⟨X_k60 m, X_k62 m, vp_in_nI (by omega) (by omega), t_max ?_⟩
  have eg : gt (nI (xM n i % 16) - 1) 0 = nI (xM n i % 16 - 1) := by
    have : ∀ k, k < 16 → gt (nI k - 1) 0 = nI (k - 1) := by decide
    exact this _ (Nat.mod_lt _ (by decide))
  rw [eg]
  show ∃ n25, w_Ex_extend_L19 Q 60 (nI i) n25 (nI (xN n i)) (nI (xM n i % 16 - 1)) h
  generalize hl : xM n i % 16 - 1 = l at *
  refine loop_0 (fun x k s => w_Ex_extend_L19 Q 60 (nI i) x (nI (xN n i + k)) (nI (l + k)) s) (fun k s => Fx [62, 63, 64] [] h s ∧ EX f n (xN n i + k) s) (n - l) h ⟨fx_refl _ _ _, e0⟩ ?_ ?_
  · rintro x s ⟨fs, es⟩
    have cs := CN_fx c0 fs (by decide) (by decide)
    unfold w_Ex_extend_L19
    rw [X_r60_0 cs.1, cs.2.1.2.2.1, show l + (n - l) = n by omega]
    refine ⟨X_k60 cs.1, cs.2.1.1.1, fun _ => ?_, fun z => absurd (Int32.le_refl _) z⟩
    have e : xN n (i + 1) = xN n i + (n - l) := by
      show xN n i + (n - (xM n i % 16 - 1)) = _
      rw [hl]
    have := hq s fs (by rw [e]; exact es)
    rw [e] at this
    exact this
  · rintro x k s hk ⟨fs, es⟩ ih
    have cs := CN_fx c0 fs (by decide) (by decide)
    have ms := cs.1
    have ei := es i (by omega)
    unfold w_Ex_extend_L19
    rw [X_r60_0 ms, X_r60_2 ms, X_r60_3 ms, cs.2.1.2.2.1, X_n62 ms, X_n63 ms, ix_nI (by omega), ix_nI (by omega), ei.1, nI_1, nI_1, xd_shl _ (by omega) _ (by omega)]
    refine ⟨X_k60 ms, cs.2.1.1.1, fun z => absurd z (nI_ge (by omega) (by omega)), fun _ => ⟨fun z => absurd z (nI_ge (b := 165) (by omega) (by omega)), fun _ => ⟨X_k62 ms, vp_in_nI (by omega) (by omega), vp_in_nI (by omega) (by omega), X_k63 ms, vp_in_nI (by omega) (by omega), ?_⟩⟩⟩
    have g1 : Fx [62, 63, 64] [] s (sI s 62 (xN n i + k) (nI (xM n i * 16 + (l + k + 1)))) := fx_sI s _ (by simp)
    have c1 := CN_fx cs g1 (by decide) (by decide)
    refine t_Ex_keyOf c1 (by omega) ?_
    have m1 := c1.1
    rw [X_r60_4 m1, X_r60_0 m1, X_k63 m1, X_n63 m1, X_n64 m1, gI_sI, if_neg (fun y => absurd y.1 (by decide)), ei.2.1]
    refine ⟨rfl, vp_in_nI (by omega) (by omega), X_k60 m1, X_k64 m1, vp_in_nI (by omega) (by omega), c1.2.1.1.1, ?_⟩
    have g2 := fx_sI (as := [62, 63, 64]) (js := []) (sI s 62 (xN n i + k) (nI (xM n i * 16 + (l + k + 1)))) (x := 63) (k := xN n i + k) (ky f n (xM n i) + ((f (3 * (l + k) + 0) * 64 + f (3 * (l + k) + 1)) * 64 + f (3 * (l + k) + 2))) (by simp)
    have c2 := CN_fx c1 g2 (by decide) (by decide)
    have m2 := c2.1
    refine t_Co_gainOf c2.2.1.1 (by omega) ?_
    rw [X_k64 m2, X_n64 m2, c2.2.2.1, gI_sI, if_neg (fun y => absurd y.1 (by decide)), gI_sI, if_neg (fun y => absurd y.1 (by decide)), ei.2.2, Nat.add_assoc]
    refine ⟨rfl, vp_in_nI (by omega) (by omega), ih _ ⟨fx_trans fs (fx_trans g1 (fx_trans g2 (fx_sI _ _ (by simp)))), ?_⟩⟩
    intro j hj
    rw [gI_sI, gI_sI, gI_sI, gI_sI, gI_sI, gI_sI, gI_sI, gI_sI, gI_sI]
    by_cases ej : j = xN n i + k
    · subst ej
      rw [me k hk, ky_one hn b1 (by omega), pG_one hn b1 (by omega)]
      exact ⟨by simp, by simp, by simp⟩
    · have := es j (by omega)
      exact ⟨by simpa [ej] using this.1, by simpa [ej] using this.2.1, by simpa [ej] using this.2.2⟩
theorem xS_up : ∀ n, n ≤ 8 → ∀ s, s ≤ 3 → xS n s ≤ xS n (s + 1) := by decide +kernel
theorem xN_up : ∀ n, n ≤ 8 → ∀ i, i < xS n 3 → i < xN n i := by decide +kernel
/-- where the plans of each size begin -/
def ES (n z : Nat) (h : Hp) : Prop := ∀ j, j < z → gI h 61 j = nI (xS n j)
theorem t_Ex_listPlans {f : Nat → Int32} {r n : Nat} {Q : Hp → Prop} (c0 : CN f r n h) (hq : ∀ h', Fx [61, 62, 63, 64] [] h h' → EX f n (xS n 4) h' → ES n 5 h' → Q h') : w_Ex_listPlans 60 h Q := by
  have m := c0.1
  have hn := c0.2.1.2.2.2.2.2
  have z1 : xN n 0 = 1 := rfl
  have x1 : xS n 1 = 1 := rfl
  unfold w_Ex_listPlans
  rw [X_r60_1 m, X_r60_2 m, X_r60_3 m, X_r60_4 m, X_n61 m, X_n62 m, X_n63 m, X_n64 m]
  refine ⟨X_k60 m, X_k62 m, vp_in_nI (n := 0) (by omega) (by omega), X_k63 m, vp_in_nI (n := 0) (by omega) (by omega), X_k64 m, vp_in_nI (n := 0) (by omega) (by omega), X_k61 m, vp_in_nI (n := 0) (by omega) (by omega), vp_in_nI (n := 1) (by omega) (by omega), ?_⟩
  rw [show ix (0 : Int32) = 0 from rfl, show ix (1 : Int32) = 1 from rfl]
  have f1 : Fx [61, 62, 63, 64] [] h (sI (sI (sI (sI (sI h 62 0 0) 63 0 0) 64 0 0) 61 0 0) 61 1 1) := fx_trans (fx_sI _ _ (by simp)) (fx_trans (fx_sI _ _ (by simp)) (fx_trans (fx_sI _ _ (by simp)) (fx_trans (fx_sI _ _ (by simp)) (fx_sI _ _ (by simp)))))
  have e1 : EX f n 1 (sI (sI (sI (sI (sI h 62 0 0) 63 0 0) 64 0 0) 61 0 0) 61 1 1) := by
    intro j hj
    have j0 : j = 0 := by omega
    subst j0
    have x0 : xM n 0 = 0 := rfl
    have p0 : ∀ c, c < n → (xP n 0).getD c 0 = 0 := fun c hc => by
      rw [xP_get hc]
      unfold xT xK xK xK xK
      rw [if_neg (by omega)]
    have s0 : ∀ k, pS f (xP n 0) n k = 0 := fun k => sm_0 (fun c hc => by
      show nI ((xP n 0).getD c 0) * _ = 0
      rw [p0 c hc]
      exact Int32.zero_mul)
    have g0 : pG f (xP n 0) n = 0 := sm_0 (fun c hc => by
      show nI ((xP n 0).getD c 0) * _ = 0
      rw [p0 c hc]
      exact Int32.zero_mul)
    rw [x0, g0]
    unfold ky
    rw [s0, s0, s0]
    exact ⟨rfl, rfl, rfl⟩
  have e2 : ES n 2 (sI (sI (sI (sI (sI h 62 0 0) 63 0 0) 64 0 0) 61 0 0) 61 1 1) := by
    intro j hj
    match j, hj with
    | 0, _ => rfl
    | 1, _ => rfl
  revert f1 e1 e2
  generalize sI (sI (sI (sI (sI h 62 0 0) 63 0 0) 64 0 0) 61 0 0) 61 1 1 = h1
  intro f1 e1 e2
  refine loop_0 (fun x k s => w_Ex_listPlans_L39 Q 60 x (nI (xS n (k + 1))) (nI (k + 1)) s) (fun k s => Fx [61, 62, 63, 64] [] h s ∧ EX f n (xS n (k + 1)) s ∧ ES n (k + 2) s) 3 h1 ⟨f1, e1, e2⟩ ?_ ?_
  · rintro x s ⟨fs, es, zs⟩
    unfold w_Ex_listPlans_L39
    exact ⟨fun _ => hq s fs es zs, fun z => absurd (nI_lt (a := 3) (b := 4) (by omega) (by omega)) z⟩
  · rintro x k s hk ⟨fs, es, zs⟩ ih
    have ms := fx_XS fs m
    have l0 := xS_le n hn (k + 1) (by omega)
    have l1 := xS_le n hn (k + 2) (by omega)
    have u0 := xS_up n hn k (by omega)
    have u3 : xS n (k + 1) ≤ xS n 3 := by
      match k, hk with
      | 0, _ => exact Nat.le_trans (xS_up n hn 1 (by omega)) (xS_up n hn 2 (by omega))
      | 1, _ => exact xS_up n hn 2 (by omega)
      | 2, _ => exact Nat.le_refl _
    unfold w_Ex_listPlans_L39
    rw [X_r60_1 ms, X_n61 ms, show nI (k + 1) - 1 = nI k from by rw [← nI_1]; grind, ix_nI (by omega), zs k (by omega)]
    refine ⟨fun z => absurd z (nI_nlt (a := 3) (by omega) (by omega)), fun _ => ⟨X_k60 ms, X_k61 ms, vp_in_nI (by omega) (by omega), ?_⟩⟩
    have key := loop_0 (fun y i s' => w_Ex_listPlans_L53 Q (w_Ex_listPlans_L39 Q 60 x) 60 (nI (k + 1)) y (nI (xN n (xS n k + i))) (nI (xS n k + i)) s') (fun i s' => Fx [61, 62, 63, 64] [] h s' ∧ EX f n (xN n (xS n k + i)) s' ∧ ES n (k + 2) s') (xS n (k + 1) - xS n k) s ⟨fs, by rw [Nat.add_zero, xS_N n hn k (by omega)]; exact es, zs⟩ ?_ ?_
    · rw [← xS_N n hn k (by omega)]
      exact key
    · rintro y s2 ⟨fs2, es2, zs2⟩
      have m2 := fx_XS fs2 m
      rw [show xS n k + (xS n (k + 1) - xS n k) = xS n (k + 1) by omega, xS_N n hn (k + 1) (by omega)] at es2 ⊢
      unfold w_Ex_listPlans_L53
      rw [X_r60_1 m2, X_n61 m2, ix_nI (by omega), zs2 (k + 1) (by omega), nI_1, ix_nI (by omega)]
      refine ⟨X_k60 m2, X_k61 m2, vp_in_nI (by omega) (by omega), fun _ => ⟨vp_in_nI (by omega) (by omega), ih _ ⟨fx_trans fs2 (fx_sI _ _ (by simp)), ?_, ?_⟩⟩, fun z => absurd (Int32.le_refl _) z⟩
      · exact EX_fx es2 (fx_sI (as := [61]) (js := []) _ _ (by simp)) (by decide) (by decide) (by decide)
      · intro j hj
        rw [gI_sI]
        by_cases ej : j = k + 1 + 1
        · rw [if_pos ⟨rfl, ej⟩, ej]
        · rw [if_neg (fun g => ej g.2)]
          exact zs2 j (by omega)
    · rintro y i s2 hi ⟨fs2, es2, zs2⟩ ih2
      have c2 := CN_fx c0 fs2 (by decide) (by decide)
      have m2 := c2.1
      unfold w_Ex_listPlans_L53
      rw [X_r60_1 m2, X_n61 m2, ix_nI (by omega), zs2 (k + 1) (by omega), nI_1]
      refine ⟨X_k60 m2, X_k61 m2, vp_in_nI (by omega) (by omega), fun z => absurd z (nI_ge (by omega) (by omega)), fun _ => t_Ex_extend c2 (by omega) (xN_up n hn _ (by omega)) es2 (fun s3 f3 e3 => ?_)⟩
      rw [nI_1]
      refine ih2 s3 ⟨fx_trans fs2 (fx_mono f3 (by simp) (by simp)), e3, ?_⟩
      intro j hj
      rw [fx_I f3 (by decide)]
      exact zs2 j hj
