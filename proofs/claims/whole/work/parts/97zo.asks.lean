/-! Class and reference: questions -/
variable {h : Hp}
theorem in12 {t : Nat} (ht : t ≤ 12) : (decide (0 ≤ nI t) && decide (nI t ≤ 12)) = true := by
  rw [decide_eq_true (p := 0 ≤ nI t) (nI_le (a := 0) (Nat.zero_le _) (by omega)), decide_eq_true (p := nI t ≤ 12) (nI_le (b := 12) ht (by omega))]
  rfl
theorem x_opt_bad {v : Int32} {Q : Int32 → Hp → Prop} (z : (decide (0 ≤ v) && decide (v ≤ 1)) = false) (hq : Q (-1000001) h) : w_X_optimum 16 v h Q := by
  unfold w_X_optimum
  refine ⟨fun _ => hq, fun z1 => ⟨fun _ => hq, fun z2 => ?_⟩⟩
  rw [decide_eq_true (Int32.not_lt.mp z1), decide_eq_true (Int32.not_lt.mp z2)] at z
  cases z
theorem m_opt_bad {v : Int32} {Q : Int32 → Hp → Prop} (z : (decide (0 ≤ v) && decide (v ≤ 1)) = false) (hq : Q (-1000001) h) : w_M_optimum 81 v h Q := by
  unfold w_M_optimum
  exact t_M_isIn ⟨fun _ => hq, fun q => absurd z q⟩
theorem x_frac_bad {f : Nat → Int32} {r n b : Nat} {col part : Int32} {Q : Int32 → Hp → Prop} (c0 : CN f r n h) (hb : gI h 21 3 = nI b) (hb2 : b < 2 ^ 31) (kk : KK f n b h) (z : (decide (0 ≤ part) && decide (part ≤ 1)) = false) (hq : ∀ h', Fx [56, 58] [56, 57, 59] h h' → KK f n b h' → Q (-1000001) h') : w_X_fraction 16 col part h Q := by
  have hn := c0.2.1.2.2.2.2.2
  unfold w_X_fraction
  rw [X_r16_10 c0.1]
  refine ⟨X_k16 c0.1, X_k56 c0.1, t_Cr_find c0 hb hb2 kk (fun h2 f2 vc k2 => ?_)⟩
  have c2 := CN_fx c0 f2 (by decide) (by decide)
  rw [X_r16_2 c2.1]
  refine ⟨X_k16 c2.1, c2.2.1.1.1, t_Co_hasColumn c2.2.1.1.1 c2.2.1.2.2.1 hn ⟨fun _ => hq h2 f2 k2, fun _ => ⟨fun _ => hq h2 f2 k2, fun z1 => ⟨fun _ => hq h2 f2 k2, fun z2 => ?_⟩⟩⟩⟩
  rw [decide_eq_true (Int32.not_lt.mp z1), decide_eq_true (Int32.not_lt.mp z2)] at z
  cases z
theorem m_frac_bad {r n : Nat} {col part : Int32} {Q : Int32 → Hp → Prop} (hM : Mrc h r n) (z : (decide (0 ≤ part) && decide (part ≤ 1)) = false) (hq : Q (-1000001) h) : w_M_fraction 81 col part h Q := by
  unfold w_M_fraction
  refine ⟨M_K hM.1, t_M_isColumn hM.1 hM.2.2.1 hM.2.2.2.2.2 ⟨fun _ => hq, fun _ => t_M_isIn ⟨fun _ => hq, fun q => absurd z q⟩⟩⟩
theorem x_apart_bad {f : Nat → Int32} {r n b : Nat} {part : Int32} {Q : Int32 → Hp → Prop} (c0 : CN f r n h) (hb : gI h 21 3 = nI b) (hb2 : b < 2 ^ 31) (kk : KK f n b h) (z : (decide (0 ≤ part) && decide (part ≤ 1)) = false) (hq : ∀ h', Fx [56, 58] [56, 57, 59] h h' → KK f n b h' → Q (-1000001) h') : w_X_apart 16 part h Q := by
  unfold w_X_apart
  rw [X_r16_10 c0.1]
  refine ⟨X_k16 c0.1, X_k56 c0.1, t_Cr_find c0 hb hb2 kk (fun h2 f2 vc k2 => ⟨fun _ => hq h2 f2 k2, fun z1 => ⟨fun _ => hq h2 f2 k2, fun z2 => ?_⟩⟩)⟩
  rw [decide_eq_true (Int32.not_lt.mp z1), decide_eq_true (Int32.not_lt.mp z2)] at z
  cases z
theorem m_apart_bad {part : Int32} {Q : Int32 → Hp → Prop} (z : (decide (0 ≤ part) && decide (part ≤ 1)) = false) (hq : Q (-1000001) h) : w_M_apart 81 part h Q := by
  unfold w_M_apart
  exact t_M_isIn ⟨fun _ => hq, fun q => absurd z q⟩
theorem c_optimum {c ρ : Nat} {x : Int32} {R : Int32 → Hp → Prop} (hc : c < 2 ^ 30) (j : JJ c ρ h) (hR : ∀ q h1, gK h1 81 = 12 → (∀ S : Int32 → Hp → Prop, (∀ h2, JJ c ρ h2 → S q h2) → w_M_optimum 81 x h1 S) → R q h1) : w_X_optimum 16 x h R := by
  obtain ⟨f, r, n, gg, fi, A, U, K, s, tm, N, B, e1, e2, bx, b, a, hb, jc, jm, jp⟩ := j
  obtain ⟨⟨st, s1, s2, ko⟩, kk, ke, kd, kz⟩ := jc.2.2.2.1
  have hb1 := jc.2.2.1
  have hb2 : b < 2 ^ 31 := by omega
  have hF := jc.1.2.2.2.1
  have hN := jc.1.2.2.2.2.1
  have hG := jc.1.2.2.2.2.2.1
  have hZ := jc.1.2.2.2.2.2.2.1
  cases vz : (decide (0 ≤ x) && decide (x ≤ 1)) with
  | false => exact x_opt_bad vz (hR _ h (M_K jm.1.1) (fun S hS => m_opt_bad vz (hS h ⟨f, r, n, gg, fi, A, U, K, s, tm, N, B, e1, e2, bx, b, a, hb, jc, jm, jp⟩)))
  | true =>
    refine t_X_optimum jc.1 s2 s1 hb1 hb2 ko (fun q => by rw [vz] at q; cases q) (fun h1 x1 ko1 => ?_)
    have jm1 := JM_X jm (fz_C x1 (by decide) (by decide))
    have jc1 := JC_fx jc x1 (by decide) ⟨⟨st, s1, s2, ko1⟩, KK_fx kk x1 (by decide) (by decide) (by decide), KE_fx ke x1 (by decide) (by decide) (by decide) (by decide), KD_fx kd x1 (by decide) (by decide), KZ_fx kz x1 (by decide) (by decide) (by decide) (by decide) (by decide) (by decide) (by decide)⟩
    refine hR _ h1 (M_K jm1.1.1) (fun S hS => t_M_optimum jm1.1 (by rw [jm1.2.1]; exact s2) s1 (fun q => by rw [vz] at q; cases q) (fun h2 o2 => ?_))
    rw [jm1.2.1]
    exact hS h2 ⟨f, r, n, gg, fi, A, U, K, s, tm, N, B, e1, e2, bx, b, a, hb, JC_M jc1 (fx_M o2.1 (by decide) (by decide)), JM_fr jm1 o2.1 (by decide) (by decide) (by decide), jp⟩
theorem c_plan {c ρ : Nat} {x : Int32} {R : Int32 → Hp → Prop} (hc : c < 2 ^ 30) (j : JJ c ρ h) (hR : ∀ q h1, gK h1 81 = 12 → (∀ S : Int32 → Hp → Prop, (∀ h2, JJ c ρ h2 → S q h2) → w_M_plan 81 x h1 S) → R q h1) : w_X_plan 16 x h R := by
  obtain ⟨f, r, n, gg, fi, A, U, K, s, tm, N, B, e1, e2, bx, b, a, hb, jc, jm, jp⟩ := j
  obtain ⟨⟨st, s1, s2, ko⟩, kk, ke, kd, kz⟩ := jc.2.2.2.1
  have hb1 := jc.2.2.1
  have hb2 : b < 2 ^ 31 := by omega
  have hF := jc.1.2.2.2.1
  have hN := jc.1.2.2.2.2.1
  have hG := jc.1.2.2.2.2.2.1
  have hZ := jc.1.2.2.2.2.2.2.1
  refine t_X_plan jc.1 s2 s1 hb1 hb2 ko (fun z => hR _ h (M_K jm.1.1) (fun S hS => t_M_plan jm.1 (by rw [jm.2.1]; exact s2) s1 (fun _ => hS h ⟨f, r, n, gg, fi, A, U, K, s, tm, N, B, e1, e2, bx, b, a, hb, jc, jm, jp⟩) (fun h2 j hj e _ => ?_))) (fun h1 k hk e x1 ko1 => ?_)
  · rw [e, inb_nI (by have := jc.1.2.1.2.2.2.2.2; omega) hj] at z
    cases z
  · have jm1 := JM_X jm (fz_C x1 (by decide) (by decide))
    have jc1 := JC_fx jc x1 (by decide) ⟨⟨st, s1, s2, ko1⟩, KK_fx kk x1 (by decide) (by decide) (by decide), KE_fx ke x1 (by decide) (by decide) (by decide) (by decide), KD_fx kd x1 (by decide) (by decide), KZ_fx kz x1 (by decide) (by decide) (by decide) (by decide) (by decide) (by decide) (by decide)⟩
    refine hR _ h1 (M_K jm1.1.1) (fun S hS => t_M_plan jm1.1 (by rw [jm1.2.1]; exact s2) s1 (fun z => ?_) (fun h2 k2 hk2 ek2 o2 => ?_))
    · rw [e, inb_nI (by have := jc.1.2.1.2.2.2.2.2; omega) hk] at z
      cases z
    · have ek : k2 = k := by
        rw [e] at ek2
        have := jc.1.2.1.2.2.2.2.2
        exact ((nI_eq (by omega) (by omega)).mp ek2).symm
      subst ek
      rw [jm1.2.1]
      exact hS h2 ⟨f, r, n, gg, fi, A, U, K, s, tm, N, B, e1, e2, bx, b, a, hb, JC_M jc1 (fx_M o2.1 (by decide) (by decide)), JM_fr jm1 o2.1 (by decide) (by decide) (by decide), jp⟩
theorem c_strays {c ρ : Nat} {R : Int32 → Hp → Prop} (hc : c < 2 ^ 30) (j : JJ c ρ h) (hR : ∀ q h1, gK h1 81 = 12 → (∀ S : Int32 → Hp → Prop, (∀ h2, JJ c ρ h2 → S q h2) → w_M_strays 81  h1 S) → R q h1) : w_X_strays 16  h R := by
  obtain ⟨f, r, n, gg, fi, A, U, K, s, tm, N, B, e1, e2, bx, b, a, hb, jc, jm, jp⟩ := j
  obtain ⟨⟨st, s1, s2, ko⟩, kk, ke, kd, kz⟩ := jc.2.2.2.1
  have hb1 := jc.2.2.1
  have hb2 : b < 2 ^ 31 := by omega
  have hF := jc.1.2.2.2.1
  have hN := jc.1.2.2.2.2.1
  have hG := jc.1.2.2.2.2.2.1
  have hZ := jc.1.2.2.2.2.2.2.1
  refine t_X_strays jc.1 s2 s1 hb1 hb2 ko (fun h1 x1 ko1 => ?_)
  have jm1 := JM_X jm (fz_C x1 (by decide) (by decide))
  have jc1 := JC_fx jc x1 (by decide) ⟨⟨st, s1, s2, ko1⟩, KK_fx kk x1 (by decide) (by decide) (by decide), KE_fx ke x1 (by decide) (by decide) (by decide) (by decide), KD_fx kd x1 (by decide) (by decide), KZ_fx kz x1 (by decide) (by decide) (by decide) (by decide) (by decide) (by decide) (by decide)⟩
  refine hR _ h1 (M_K jm1.1.1) (fun S hS => t_M_strays jm1.1 (by rw [jm1.2.1]; exact s2) s1 (fun h2 x2 => ?_))
  rw [jm1.2.1]
  exact hS h2 ⟨f, r, n, gg, fi, A, U, K, s, tm, N, B, e1, e2, bx, b, a, hb, JC_M jc1 (fx_M x2 (by decide) (by decide)), JM_fr jm1 x2 (by decide) (by decide) (by decide), jp⟩
theorem c_sorted {c ρ : Nat} {R : Int32 → Hp → Prop} (hc : c < 2 ^ 30) (j : JJ c ρ h) (hR : ∀ q h1, gK h1 81 = 12 → (∀ S : Int32 → Hp → Prop, (∀ h2, JJ c ρ h2 → S q h2) → w_M_sorted 81  h1 S) → R q h1) : w_X_sorted 16  h R := by
  obtain ⟨f, r, n, gg, fi, A, U, K, s, tm, N, B, e1, e2, bx, b, a, hb, jc, jm, jp⟩ := j
  obtain ⟨⟨st, s1, s2, ko⟩, kk, ke, kd, kz⟩ := jc.2.2.2.1
  have hb1 := jc.2.2.1
  have hb2 : b < 2 ^ 31 := by omega
  have hF := jc.1.2.2.2.1
  have hN := jc.1.2.2.2.2.1
  have hG := jc.1.2.2.2.2.2.1
  have hZ := jc.1.2.2.2.2.2.2.1
  refine t_X_sorted jc.1 s2 s1 hb1 hb2 ko (fun h1 x1 ko1 => ?_)
  have jm1 := JM_X jm (fz_C x1 (by decide) (by decide))
  have jc1 := JC_fx jc x1 (by decide) ⟨⟨st, s1, s2, ko1⟩, KK_fx kk x1 (by decide) (by decide) (by decide), KE_fx ke x1 (by decide) (by decide) (by decide) (by decide), KD_fx kd x1 (by decide) (by decide), KZ_fx kz x1 (by decide) (by decide) (by decide) (by decide) (by decide) (by decide) (by decide)⟩
  refine hR _ h1 (M_K jm1.1.1) (fun S hS => t_M_sorted jm1.1 (by rw [jm1.2.1]; exact s2) s1 (fun h2 x2 => ?_))
  rw [jm1.2.1]
  exact hS h2 ⟨f, r, n, gg, fi, A, U, K, s, tm, N, B, e1, e2, bx, b, a, hb, JC_M jc1 (fx_M x2 (by decide) (by decide)), JM_fr jm1 x2 (by decide) (by decide) (by decide), jp⟩
theorem c_plans {c ρ : Nat} {x : Int32} {R : Int32 → Hp → Prop} (hc : c < 2 ^ 30) (j : JJ c ρ h) (hR : ∀ q h1, gK h1 81 = 12 → (∀ S : Int32 → Hp → Prop, (∀ h2, JJ c ρ h2 → S q h2) → w_M_plans 81 x h1 S) → R q h1) : w_X_plans 16 x h R := by
  obtain ⟨f, r, n, gg, fi, A, U, K, s, tm, N, B, e1, e2, bx, b, a, hb, jc, jm, jp⟩ := j
  obtain ⟨⟨st, s1, s2, ko⟩, kk, ke, kd, kz⟩ := jc.2.2.2.1
  have hb1 := jc.2.2.1
  have hb2 : b < 2 ^ 31 := by omega
  have hF := jc.1.2.2.2.1
  have hN := jc.1.2.2.2.2.1
  have hG := jc.1.2.2.2.2.2.1
  have hZ := jc.1.2.2.2.2.2.2.1
  refine t_X_plans jc.1 (fun z => hR _ h (M_K jm.1.1) (fun S hS => t_M_plans jm.1 (fun _ => hS h ⟨f, r, n, gg, fi, A, U, K, s, tm, N, B, e1, e2, bx, b, a, hb, jc, jm, jp⟩) (fun t ht e f2 => ?_))) (fun t h1 ht e x1 => ?_)
  · rw [e, in12 ht] at z
    cases z
  · have jm1 := JM_X jm (fz_C x1 (by decide) (by decide))
    have jc1 := JC_fx jc x1 (by decide) ⟨⟨st, s1, s2, KO_fx ko x1 (by decide) (by decide) (by decide)⟩, KK_fx kk x1 (by decide) (by decide) (by decide), KE_fx ke x1 (by decide) (by decide) (by decide) (by decide), KD_fx kd x1 (by decide) (by decide), KZ_fx kz x1 (by decide) (by decide) (by decide) (by decide) (by decide) (by decide) (by decide)⟩
    refine hR _ h1 (M_K jm1.1.1) (fun S hS => t_M_plans jm1.1 (fun z => ?_) (fun t2 ht2 et2 f2 => ?_))
    · rw [e, in12 ht] at z
      cases z
    · have et : t2 = t := by
        rw [e] at et2
        exact ((nI_eq (by omega) (by omega)).mp et2).symm
      subst et
      rw [jm1.2.1]
      have x2 : Fr [88] [] [] [] h1 (sA h1 88 f2) := fr_sA _ _ (by simp)
      exact hS _ ⟨f, r, n, gg, fi, A, U, K, s, tm, N, B, e1, e2, bx, b, a, hb, JC_M jc1 (fx_M x2 (by decide) (by decide)), JM_fr jm1 x2 (by decide) (by decide) (by decide), jp⟩
theorem c_corners {c ρ : Nat} {R : Int32 → Hp → Prop} (hc : c < 2 ^ 30) (j : JJ c ρ h) (hR : ∀ q h1, gK h1 81 = 12 → (∀ S : Int32 → Hp → Prop, (∀ h2, JJ c ρ h2 → S q h2) → w_M_corners 81  h1 S) → R q h1) : w_X_corners 16  h R := by
  obtain ⟨f, r, n, gg, fi, A, U, K, s, tm, N, B, e1, e2, bx, b, a, hb, jc, jm, jp⟩ := j
  obtain ⟨⟨st, s1, s2, ko⟩, kk, ke, kd, kz⟩ := jc.2.2.2.1
  have hb1 := jc.2.2.1
  have hb2 : b < 2 ^ 31 := by omega
  have hF := jc.1.2.2.2.1
  have hN := jc.1.2.2.2.2.1
  have hG := jc.1.2.2.2.2.2.1
  have hZ := jc.1.2.2.2.2.2.2.1
  refine t_X_corners jc.1 hb1 hb2 kk (fun h1 x1 kk1 => ?_)
  have jm1 := JM_X jm (fz_C x1 (by decide) (by decide))
  have jc1 := JC_fx jc x1 (by decide) ⟨⟨st, s1, s2, KO_fx ko x1 (by decide) (by decide) (by decide)⟩, kk1, KE_fx ke x1 (by decide) (by decide) (by decide) (by decide), KD_fx kd x1 (by decide) (by decide), KZ_fx kz x1 (by decide) (by decide) (by decide) (by decide) (by decide) (by decide) (by decide)⟩
  refine hR _ h1 (M_K jm1.1.1) (fun S hS => t_M_corners jm1.1 jm1.2.1 hF hN hG hZ (fun h2 x2 => ?_))
  exact hS h2 ⟨f, r, n, gg, fi, A, U, K, s, tm, N, B, e1, e2, bx, b, a, hb, JC_M jc1 (fx_M x2 (by decide) (by decide)), JM_fr jm1 x2 (by decide) (by decide) (by decide), jp⟩
theorem c_relaxed {c ρ : Nat} {x : Int32} {R : Int32 → Hp → Prop} (hc : c < 2 ^ 30) (j : JJ c ρ h) (hR : ∀ q h1, gK h1 81 = 12 → (∀ S : Int32 → Hp → Prop, (∀ h2, JJ c ρ h2 → S q h2) → w_M_relaxed 81 x h1 S) → R q h1) : w_X_relaxed 16 x h R := by
  obtain ⟨f, r, n, gg, fi, A, U, K, s, tm, N, B, e1, e2, bx, b, a, hb, jc, jm, jp⟩ := j
  obtain ⟨⟨st, s1, s2, ko⟩, kk, ke, kd, kz⟩ := jc.2.2.2.1
  have hb1 := jc.2.2.1
  have hb2 : b < 2 ^ 31 := by omega
  have hF := jc.1.2.2.2.1
  have hN := jc.1.2.2.2.2.1
  have hG := jc.1.2.2.2.2.2.1
  have hZ := jc.1.2.2.2.2.2.2.1
  refine t_X_relaxed jc.1 hb1 hb2 kk (fun e h1 x1 kk1 he => ?_)
  have jm1 := JM_X jm (fz_C x1 (by decide) (by decide))
  have jc1 := JC_fx jc x1 (by decide) ⟨⟨st, s1, s2, KO_fx ko x1 (by decide) (by decide) (by decide)⟩, kk1, KE_fx ke x1 (by decide) (by decide) (by decide) (by decide), KD_fx kd x1 (by decide) (by decide), KZ_fx kz x1 (by decide) (by decide) (by decide) (by decide) (by decide) (by decide) (by decide)⟩
  refine hR _ h1 (M_K jm1.1.1) (fun S hS => t_M_relaxed jm1.1 jm1.2.1 hF hN hG hZ (fun e' h2 x2 he' => ?_))
  have ee : e' = e := bool_iff (he'.trans he.symm)
  subst ee
  exact hS h2 ⟨f, r, n, gg, fi, A, U, K, s, tm, N, B, e1, e2, bx, b, a, hb, JC_M jc1 (fx_M x2 (by decide) (by decide)), JM_fr jm1 x2 (by decide) (by decide) (by decide), jp⟩
theorem c_fraction {c ρ : Nat} {x y : Int32} {R : Int32 → Hp → Prop} (hc : c < 2 ^ 30) (j : JJ c ρ h) (hR : ∀ q h1, gK h1 81 = 12 → (∀ S : Int32 → Hp → Prop, (∀ h2, JJ c ρ h2 → S q h2) → w_M_fraction 81 x y h1 S) → R q h1) : w_X_fraction 16 x y h R := by
  obtain ⟨f, r, n, gg, fi, A, U, K, s, tm, N, B, e1, e2, bx, b, a, hb, jc, jm, jp⟩ := j
  obtain ⟨⟨st, s1, s2, ko⟩, kk, ke, kd, kz⟩ := jc.2.2.2.1
  have hb1 := jc.2.2.1
  have hb2 : b < 2 ^ 31 := by omega
  have hF := jc.1.2.2.2.1
  have hN := jc.1.2.2.2.2.1
  have hG := jc.1.2.2.2.2.2.1
  have hZ := jc.1.2.2.2.2.2.2.1
  have hn8 := jc.1.2.1.2.2.2.2.2
  cases vz : (decide (0 ≤ y) && decide (y ≤ 1)) with
  | false =>
    refine x_frac_bad jc.1 hb1 hb2 kk vz (fun h1 x1 kk1 => ?_)
    have jm1 := JM_X jm (fz_C x1 (by decide) (by decide))
    have jc1 := JC_fx jc x1 (by decide) ⟨⟨st, s1, s2, KO_fx ko x1 (by decide) (by decide) (by decide)⟩, kk1, KE_fx ke x1 (by decide) (by decide) (by decide) (by decide), KD_fx kd x1 (by decide) (by decide), KZ_fx kz x1 (by decide) (by decide) (by decide) (by decide) (by decide) (by decide) (by decide)⟩
    exact hR _ h1 (M_K jm1.1.1) (fun S hS => m_frac_bad jm1.1 vz (hS h1 ⟨f, r, n, gg, fi, A, U, K, s, tm, N, B, e1, e2, bx, b, a, hb, jc1, jm1, jp⟩))
  | true =>
    refine t_X_fraction jc.1 hb1 hb2 kk (fun h1 x1 kk1 z => ?_) (fun e h1 k hk ek x1 kk1 he => ?_)
    · have jm1 := JM_X jm (fz_C x1 (by decide) (by decide))
      have jc1 := JC_fx jc x1 (by decide) ⟨⟨st, s1, s2, KO_fx ko x1 (by decide) (by decide) (by decide)⟩, kk1, KE_fx ke x1 (by decide) (by decide) (by decide) (by decide), KD_fx kd x1 (by decide) (by decide), KZ_fx kz x1 (by decide) (by decide) (by decide) (by decide) (by decide) (by decide) (by decide)⟩
      refine hR _ h1 (M_K jm1.1.1) (fun S hS => t_M_fraction jm1.1 jm1.2.1 hF hN hG hZ (fun _ => hS h1 ⟨f, r, n, gg, fi, A, U, K, s, tm, N, B, e1, e2, bx, b, a, hb, jc1, jm1, jp⟩) (fun e' h2 k' hk' ek' _ _ => ?_))
      rw [ek', inb_nI (by omega) hk', vz] at z
      cases z
    · have jm1 := JM_X jm (fz_C x1 (by decide) (by decide))
      have jc1 := JC_fx jc x1 (by decide) ⟨⟨st, s1, s2, KO_fx ko x1 (by decide) (by decide) (by decide)⟩, kk1, KE_fx ke x1 (by decide) (by decide) (by decide) (by decide), KD_fx kd x1 (by decide) (by decide), KZ_fx kz x1 (by decide) (by decide) (by decide) (by decide) (by decide) (by decide) (by decide)⟩
      refine hR _ h1 (M_K jm1.1.1) (fun S hS => t_M_fraction jm1.1 jm1.2.1 hF hN hG hZ (fun z => ?_) (fun e' h2 k' hk' ek' x2 he' => ?_))
      · rw [ek, inb_nI (by omega) hk, vz] at z
        cases z
      · have ek2 : k' = k := by
          rw [ek] at ek'
          exact ((nI_eq (by omega) (by omega)).mp ek').symm
        subst ek2
        have ee : e' = e := bool_iff (he'.trans he.symm)
        subst ee
        exact hS h2 ⟨f, r, n, gg, fi, A, U, K, s, tm, N, B, e1, e2, bx, b, a, hb, JC_M jc1 (fx_M x2 (by decide) (by decide)), JM_fr jm1 x2 (by decide) (by decide) (by decide), jp⟩
theorem c_apart {c ρ : Nat} {x : Int32} {R : Int32 → Hp → Prop} (hc : c < 2 ^ 30) (j : JJ c ρ h) (hR : ∀ q h1, gK h1 81 = 12 → (∀ S : Int32 → Hp → Prop, (∀ h2, JJ c ρ h2 → S q h2) → w_M_apart 81 x h1 S) → R q h1) : w_X_apart 16 x h R := by
  obtain ⟨f, r, n, gg, fi, A, U, K, s, tm, N, B, e1, e2, bx, b, a, hb, jc, jm, jp⟩ := j
  obtain ⟨⟨st, s1, s2, ko⟩, kk, ke, kd, kz⟩ := jc.2.2.2.1
  have hb1 := jc.2.2.1
  have hb2 : b < 2 ^ 31 := by omega
  have hF := jc.1.2.2.2.1
  have hN := jc.1.2.2.2.2.1
  have hG := jc.1.2.2.2.2.2.1
  have hZ := jc.1.2.2.2.2.2.2.1
  cases vz : (decide (0 ≤ x) && decide (x ≤ 1)) with
  | false =>
    refine x_apart_bad jc.1 hb1 hb2 kk vz (fun h1 x1 kk1 => ?_)
    have jm1 := JM_X jm (fz_C x1 (by decide) (by decide))
    have jc1 := JC_fx jc x1 (by decide) ⟨⟨st, s1, s2, KO_fx ko x1 (by decide) (by decide) (by decide)⟩, kk1, KE_fx ke x1 (by decide) (by decide) (by decide) (by decide), KD_fx kd x1 (by decide) (by decide), KZ_fx kz x1 (by decide) (by decide) (by decide) (by decide) (by decide) (by decide) (by decide)⟩
    exact hR _ h1 (M_K jm1.1.1) (fun S hS => m_apart_bad vz (hS h1 ⟨f, r, n, gg, fi, A, U, K, s, tm, N, B, e1, e2, bx, b, a, hb, jc1, jm1, jp⟩))
  | true =>
    refine t_X_apart jc.1 s2 s1 hb1 hb2 ko kk (fun h1 x1 ko1 kk1 q => by rw [vz] at q; cases q) (fun e h1 x1 ko1 kk1 he => ?_)
    have jm1 := JM_X jm (fz_C x1 (by decide) (by decide))
    have jc1 := JC_fx jc x1 (by decide) ⟨⟨st, s1, s2, ko1⟩, kk1, KE_fx ke x1 (by decide) (by decide) (by decide) (by decide), KD_fx kd x1 (by decide) (by decide), KZ_fx kz x1 (by decide) (by decide) (by decide) (by decide) (by decide) (by decide) (by decide)⟩
    refine hR _ h1 (M_K jm1.1.1) (fun S hS => t_M_apart jm1.1 jm1.2.1 hF hN hG hZ (by rw [jm1.2.1]; exact s2) s1 (fun q => by rw [vz] at q; cases q) (fun e' h2 x2 he' => ?_))
    have ee : e' = e := bool_iff (he'.trans he.symm)
    subst ee
    exact hS h2 ⟨f, r, n, gg, fi, A, U, K, s, tm, N, B, e1, e2, bx, b, a, hb, JC_M jc1 (fx_M x2 (by decide) (by decide)), JM_fr jm1 x2 (by decide) (by decide) (by decide), jp⟩
