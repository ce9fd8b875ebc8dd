/-! Class and reference: more questions -/
variable {h : Hp}
theorem in_ok {t m : Nat} {M : Int32} (hM : M = nI m) (hm : m < 2 ^ 31) (ht : t ≤ m) : (decide (0 ≤ nI t) && decide (nI t ≤ M)) = true := by
  rw [hM, decide_eq_true (p := 0 ≤ nI t) (nI_le (a := 0) (Nat.zero_le _) (by omega)), decide_eq_true (p := nI t ≤ nI m) (nI_le ht hm)]
  rfl
theorem c_order {c ρ : Nat} {x : Int32} {R : Int32 → Hp → Prop} (hc : c < 2 ^ 30) (j : JJ c ρ h) (hR : ∀ q h1, gK h1 81 = 12 → (∀ S : Int32 → Hp → Prop, (∀ h2, JJ c ρ h2 → S q h2) → w_M_order 81 x h1 S) → R q h1) : w_X_order 16 x h R := by
  obtain ⟨f, r, n, gg, fi, A, U, K, s, tm, N, B, e1, e2, bx, b, a, hb, jc, jm, jp⟩ := j
  obtain ⟨⟨st, s1, s2, ko⟩, kk, ke, kd, kz⟩ := jc.2.2.2.1
  have hb1 := jc.2.2.1
  have hb2 : b < 2 ^ 31 := by omega
  have hF := jc.1.2.2.2.1
  have hN := jc.1.2.2.2.2.1
  have hG := jc.1.2.2.2.2.2.1
  have hZ := jc.1.2.2.2.2.2.2.1
  have hr3 := jc.1.2.1.2.2.2.2.1
  refine t_X_order jc.1 s2 s1 hb1 hb2 ko (fun h1 x1 ko1 no => ?_) (fun h1 p g t i eo ei hi x1 ko1 => ?_)
  · have jm1 := JM_X jm (fz_C x1 (by decide) (by decide))
    have jc1 := JC_fx jc x1 (by decide) ⟨⟨st, s1, s2, ko1⟩, KK_fx kk x1 (by decide) (by decide) (by decide), KE_fx ke x1 (by decide) (by decide) (by decide) (by decide), KD_fx kd x1 (by decide) (by decide), KZ_fx kz x1 (by decide) (by decide) (by decide) (by decide) (by decide) (by decide) (by decide)⟩
    refine hR _ h1 (M_K jm1.1.1) (fun S hS => t_M_order jm1.1 (by rw [jm1.2.1]; exact s2) s1 (fun p g t eo N hN2 => ?_) (fun h2 x2 _ => ?_) (fun h2 p g t i eo ei hi _ => ?_))
    · rw [jm1.2.1] at eo ⊢
      have os := opR_some (st + 1) (p, g, t) eo
      exact (stN_le hr3 hF hN os.1 (by have := os.2.1; dsimp only at this; omega) N).1
    · exact hS h2 ⟨f, r, n, gg, fi, A, U, K, s, tm, N, B, e1, e2, bx, b, a, hb, JC_M jc1 (fx_M x2 (by decide) (by decide)), JM_fr jm1 x2 (by decide) (by decide) (by decide), jp⟩
    · rw [jm1.2.1] at eo
      have z := no p g t eo
      have tb := (opR_some (st + 1) (p, g, t) eo).2.1
      dsimp only at tb
      rw [ei, inb_nI (by omega) hi] at z
      cases z
  · have jm1 := JM_X jm (fz_C x1 (by decide) (by decide))
    have jc1 := JC_fx jc x1 (by decide) ⟨⟨st, s1, s2, ko1⟩, KK_fx kk x1 (by decide) (by decide) (by decide), KE_fx ke x1 (by decide) (by decide) (by decide) (by decide), KD_fx kd x1 (by decide) (by decide), KZ_fx kz x1 (by decide) (by decide) (by decide) (by decide) (by decide) (by decide) (by decide)⟩
    have tb := (opR_some (st + 1) (p, g, t) eo).2.1
    dsimp only at tb
    refine hR _ h1 (M_K jm1.1.1) (fun S hS => t_M_order jm1.1 (by rw [jm1.2.1]; exact s2) s1 (fun p g t eo N hN2 => ?_) (fun h2 x2 no => ?_) (fun h2 p' g' t' i' eo' ei' hi' x2 => ?_))
    · rw [jm1.2.1] at eo ⊢
      have os := opR_some (st + 1) (p, g, t) eo
      exact (stN_le hr3 hF hN os.1 (by have := os.2.1; dsimp only at this; omega) N).1
    · rw [jm1.2.1] at no
      have z := no p g t eo
      rw [ei, inb_nI (by omega) hi] at z
      cases z
    · rw [jm1.2.1] at eo' ⊢
      rw [eo] at eo'
      cases eo'
      have ii : i' = i := by
        rw [ei] at ei'
        exact ((nI_eq (by omega) (by omega)).mp ei').symm
      subst ii
      exact hS h2 ⟨f, r, n, gg, fi, A, U, K, s, tm, N, B, e1, e2, bx, b, a, hb, JC_M jc1 (fx_M x2 (by decide) (by decide)), JM_fr jm1 x2 (by decide) (by decide) (by decide), jp⟩
theorem c_doubled {c ρ : Nat} {x y z : Int32} {R : Int32 → Hp → Prop} (hc : c < 2 ^ 30) (j : JJ c ρ h) (hR : ∀ q h1, gK h1 81 = 12 → (∀ S : Int32 → Hp → Prop, (∀ h2, JJ c ρ h2 → S q h2) → w_M_doubled 81 x y z h1 S) → R q h1) : w_X_doubled 16 x y z h R := by
  obtain ⟨f, r, n, gg, fi, A, U, K, s, tm, N, B, e1, e2, bx, b, a, hb, jc, jm, jp⟩ := j
  obtain ⟨⟨st, s1, s2, ko⟩, kk, ke, kd, kz⟩ := jc.2.2.2.1
  have hb1 := jc.2.2.1
  have hb2 : b < 2 ^ 31 := by omega
  have hF := jc.1.2.2.2.1
  have hN := jc.1.2.2.2.2.1
  have hG := jc.1.2.2.2.2.2.1
  have hZ := jc.1.2.2.2.2.2.2.1
  have v5 : ∀ L w', L ≤ 4 → w' ≤ 3 → x = nI L → y = nI w' → z = 5 → ((decide (0 ≤ x) && decide (x ≤ 4)) && ((decide (0 ≤ y) && decide (y ≤ 3)) && ((decide (0 ≤ z) && decide (z ≤ 5)) && (decide (5 ≤ z) || decide (z ≤ x))))) = false → False := fun L w' h1 h2 e1 e2 e3 q => by
    rw [e1, e2, e3, in_ok (M := 4) rfl (by decide) h1, in_ok (M := 3) rfl (by decide) h2] at q
    rw [show (decide ((5 : Int32) ≤ 5)) = true from rfl] at q
    cases q
  have vx : ∀ L w' k, L ≤ 4 → w' ≤ 3 → x = nI L → y = nI w' → k ≤ L → z = nI k → ((decide (0 ≤ x) && decide (x ≤ 4)) && ((decide (0 ≤ y) && decide (y ≤ 3)) && ((decide (0 ≤ z) && decide (z ≤ 5)) && (decide (5 ≤ z) || decide (z ≤ x))))) = false → False := fun L w' k h1 h2 e1 e2 h3 e3 q => by
    rw [e1, e2, e3, in_ok (M := 4) rfl (by decide) h1, in_ok (M := 3) rfl (by decide) h2, in_ok (m := 5) (M := 5) rfl (by decide) (by omega), decide_eq_true (p := nI k ≤ nI L) (nI_le h3 (by omega)), Bool.or_true] at q
    cases q
  have n5 : ∀ k, k ≤ 4 → z = 5 → z = nI k → False := fun k hk e1 e2 => by
    rw [e1] at e2
    have := (nI_eq (a := 5) (by omega) (by omega)).mp e2
    omega
  refine t_X_doubled jc.1 hb1 hb2 kd (fun iv => hR _ h (M_K jm.1.1) (fun S hS => t_M_doubled jm.1 jm.2.1 hF hN hZ (fun _ => hS h ⟨f, r, n, gg, fi, A, U, K, s, tm, N, B, e1, e2, bx, b, a, hb, jc, jm, jp⟩) (fun h2 L w' h1 h3 e1 e2 _ => ⟨fun e5 => (v5 L w' h1 h3 e1 e2 e5 iv).elim, fun k hk ek => (vx L w' k h1 h3 e1 e2 hk ek iv).elim⟩))) (fun h1 L w' hL hw el ew x1 kd1 => ?_)
  have jm1 := JM_X jm (fz_C x1 (by decide) (by decide))
  have jc1 := JC_fx jc x1 (by decide) ⟨⟨st, s1, s2, KO_fx ko x1 (by decide) (by decide) (by decide)⟩, KK_fx kk x1 (by decide) (by decide) (by decide), KE_fx ke x1 (by decide) (by decide) (by decide) (by decide), kd1, KZ_fx kz x1 (by decide) (by decide) (by decide) (by decide) (by decide) (by decide) (by decide)⟩
  have uni : ∀ L2 w2, L2 ≤ 4 → w2 ≤ 3 → x = nI L2 → y = nI w2 → L2 = L ∧ w2 = w' := fun L2 w2 h1 h2 e1 e2 => by
    rw [el] at e1
    rw [ew] at e2
    exact ⟨((nI_eq (by omega) (by omega)).mp e1).symm, ((nI_eq (by omega) (by omega)).mp e2).symm⟩
  refine ⟨fun e5 => hR _ h1 (M_K jm1.1.1) (fun S hS => t_M_doubled jm1.1 jm1.2.1 hF hN hZ (fun q => (v5 L w' hL hw el ew e5 q).elim) (fun h2 L2 w2 q1 q2 q3 q4 x2 => ?_)), fun k hk ek => hR _ h1 (M_K jm1.1.1) (fun S hS => t_M_doubled jm1.1 jm1.2.1 hF hN hZ (fun q => (vx L w' k hL hw el ew hk ek q).elim) (fun h2 L2 w2 q1 q2 q3 q4 x2 => ?_))⟩
  · obtain ⟨rfl, rfl⟩ := uni L2 w2 q1 q2 q3 q4
    exact ⟨fun _ => hS h2 ⟨f, r, n, gg, fi, A, U, K, s, tm, N, B, e1, e2, bx, b, a, hb, JC_M jc1 (fx_M x2 (by decide) (by decide)), JM_fr jm1 x2 (by decide) (by decide) (by decide), jp⟩, fun k hk ek => (n5 k (by omega) e5 ek).elim⟩
  · obtain ⟨rfl, rfl⟩ := uni L2 w2 q1 q2 q3 q4
    refine ⟨fun e5 => (n5 k (by omega) e5 ek).elim, fun k2 hk2 ek2 => ?_⟩
    have : k2 = k := by
      rw [ek] at ek2
      exact ((nI_eq (by omega) (by omega)).mp ek2).symm
    subst this
    exact hS h2 ⟨f, r, n, gg, fi, A, U, K, s, tm, N, B, e1, e2, bx, b, a, hb, JC_M jc1 (fx_M x2 (by decide) (by decide)), JM_fr jm1 x2 (by decide) (by decide) (by decide), jp⟩
theorem c_drawn {c ρ : Nat} {x y z : Int32} {R : Int32 → Hp → Prop} (hc : c < 2 ^ 30) (j : JJ c ρ h) (hR : ∀ q h1, gK h1 81 = 12 → (∀ S : Int32 → Hp → Prop, (∀ h2, JJ c ρ h2 → S q h2) → w_M_drawn 81 x y z h1 S) → R q h1) : w_X_drawn 16 x y z h R := by
  obtain ⟨f, r, n, gg, fi, A, U, K, s, tm, N, B, e1, e2, bx, b, a, hb, jc, jm, jp⟩ := j
  obtain ⟨⟨st, s1, s2, ko⟩, kk, ke, kd, kz⟩ := jc.2.2.2.1
  have hb1 := jc.2.2.1
  have hb2 : b < 2 ^ 31 := by omega
  have hF := jc.1.2.2.2.1
  have hN := jc.1.2.2.2.2.1
  have hG := jc.1.2.2.2.2.2.1
  have hZ := jc.1.2.2.2.2.2.2.1
  have ok : ∀ s' t', s' ≤ 9999 → t' ≤ 12 → x = nI s' → y = nI t' → n ≠ 0 → (decide (0 ≤ z) && decide (z ≤ 2)) = true → ((decide (0 ≤ x) && decide (x ≤ 9999)) && ((decide (0 ≤ y) && decide (y ≤ 12)) && ((decide (0 ≤ z) && decide (z ≤ 2)) && decide (n ≠ 0)))) = false → False := fun s' t' h1 h2 e1 e2 h3 h4 q => by
    rw [e1, e2, h4, in_ok (M := 9999) rfl (by decide) h1, in_ok (M := 12) rfl (by decide) h2, decide_eq_true h3] at q
    cases q
  refine t_X_drawn jc.1 (fun iv => hR _ h (M_K jm.1.1) (fun S hS => t_M_drawn jm.1 (fun _ => hS h ⟨f, r, n, gg, fi, A, U, K, s, tm, N, B, e1, e2, bx, b, a, hb, jc, jm, jp⟩) (fun h2 s' t' q1 q2 q3 q4 q5 q6 _ => (ok s' t' q1 q2 q3 q4 q5 q6 iv).elim))) (fun h1 s' t' q1 q2 q3 q4 q5 q6 x1 => ?_)
  have jm1 := JM_X jm (fz_C x1 (by decide) (by decide))
  have jc1 := JC_fx jc x1 (by decide) ⟨⟨st, s1, s2, KO_fx ko x1 (by decide) (by decide) (by decide)⟩, KK_fx kk x1 (by decide) (by decide) (by decide), KE_fx ke x1 (by decide) (by decide) (by decide) (by decide), KD_fx kd x1 (by decide) (by decide), KZ_fx kz x1 (by decide) (by decide) (by decide) (by decide) (by decide) (by decide) (by decide)⟩
  refine hR _ h1 (M_K jm1.1.1) (fun S hS => t_M_drawn jm1.1 (fun iv => (ok s' t' q1 q2 q3 q4 q5 q6 iv).elim) (fun h2 s2' t2' p1 p2 p3 p4 p5 p6 x2 => ?_))
  have es : s2' = s' := by
    rw [q3] at p3
    exact ((nI_eq (by omega) (by omega)).mp p3).symm
  have et : t2' = t' := by
    rw [q4] at p4
    exact ((nI_eq (by omega) (by omega)).mp p4).symm
  subst es
  subst et
  rw [jm1.2.1]
  exact hS h2 ⟨f, r, n, gg, fi, A, U, K, s, tm, N, B, e1, e2, bx, b, a, hb, JC_M jc1 (fx_M x2 (by decide) (by decide)), JM_fr jm1 x2 (by decide) (by decide) (by decide), jp⟩
theorem c_chance {c ρ : Nat} {x y : Int32} {R : Int32 → Hp → Prop} (hc : c < 2 ^ 30) (j : JJ c ρ h) (hR : ∀ q h1, gK h1 81 = 12 → (∀ S : Int32 → Hp → Prop, (∀ h2, JJ c ρ h2 → S q h2) → w_M_chance 81 x y h1 S) → R q h1) : w_X_chance 16 x y h R := by
  obtain ⟨f, r, n, gg, fi, A, U, K, s, tm, N, B, e1, e2, bx, b, a, hb, jc, jm, jp⟩ := j
  obtain ⟨⟨st, s1, s2, ko⟩, kk, ke, kd, kz⟩ := jc.2.2.2.1
  have hb1 := jc.2.2.1
  have hb2 : b < 2 ^ 31 := by omega
  have hF := jc.1.2.2.2.1
  have hN := jc.1.2.2.2.2.1
  have hG := jc.1.2.2.2.2.2.1
  have hZ := jc.1.2.2.2.2.2.2.1
  have ok : ∀ t' w', t' ≤ 12 → w' ≤ 12 → x = nI t' → y = nI w' → n ≠ 0 → (((decide (0 ≤ x) && decide (x ≤ 12)) && (decide (0 ≤ y) && decide (y ≤ 12))) && decide (n ≠ 0)) = false → False := fun t' w' h1 h2 e1 e2 h3 q => by
    rw [e1, e2, in_ok (M := 12) rfl (by decide) h1, in_ok (M := 12) rfl (by decide) h2, decide_eq_true h3] at q
    cases q
  refine t_X_chance jc.1 (fun iv => hR _ h (M_K jm.1.1) (fun S hS => t_M_chance jm.1 (fun _ => hS h ⟨f, r, n, gg, fi, A, U, K, s, tm, N, B, e1, e2, bx, b, a, hb, jc, jm, jp⟩) (fun h2 t' w' q1 q2 q3 q4 q5 _ => (ok t' w' q1 q2 q3 q4 q5 iv).elim))) (fun h1 t' w' q1 q2 q3 q4 q5 x1 => ?_)
  have jm1 := JM_X jm (fz_C x1 (by decide) (by decide))
  have jc1 := JC_fx jc x1 (by decide) ⟨⟨st, s1, s2, KO_fx ko x1 (by decide) (by decide) (by decide)⟩, KK_fx kk x1 (by decide) (by decide) (by decide), KE_fx ke x1 (by decide) (by decide) (by decide) (by decide), KD_fx kd x1 (by decide) (by decide), KZ_fx kz x1 (by decide) (by decide) (by decide) (by decide) (by decide) (by decide) (by decide)⟩
  refine hR _ h1 (M_K jm1.1.1) (fun S hS => t_M_chance jm1.1 (fun iv => (ok t' w' q1 q2 q3 q4 q5 iv).elim) (fun h2 t2' w2' p1 p2 p3 p4 p5 x2 => ?_))
  have es : t2' = t' := by
    rw [q3] at p3
    exact ((nI_eq (by omega) (by omega)).mp p3).symm
  have et : w2' = w' := by
    rw [q4] at p4
    exact ((nI_eq (by omega) (by omega)).mp p4).symm
  subst es
  subst et
  rw [jm1.2.1]
  exact hS h2 ⟨f, r, n, gg, fi, A, U, K, s, tm, N, B, e1, e2, bx, b, a, hb, JC_M jc1 (fx_M x2 (by decide) (by decide)), JM_fr jm1 x2 (by decide) (by decide) (by decide), jp⟩
theorem c_exchange {c ρ : Nat} {x y : Int32} {R : Int32 → Hp → Prop} (hc : c < 2 ^ 30) (j : JJ c ρ h) (hR : ∀ q h1, gK h1 81 = 12 → (∀ S : Int32 → Hp → Prop, (∀ h2, JJ c ρ h2 → S q h2) → w_M_exchange 81 x y h1 S) → R q h1) : w_X_exchange 16 x y h R := by
  obtain ⟨f, r, n, gg, fi, A, U, K, s, tm, N, B, e1, e2, bx, b, a, hb, jc, jm, jp⟩ := j
  obtain ⟨⟨st, s1, s2, ko⟩, kk, ke, kd, kz⟩ := jc.2.2.2.1
  have hb1 := jc.2.2.1
  have hb2 : b < 2 ^ 31 := by omega
  have hF := jc.1.2.2.2.1
  have hN := jc.1.2.2.2.2.1
  have hG := jc.1.2.2.2.2.2.1
  have hZ := jc.1.2.2.2.2.2.2.1
  have hB := jp.1.2.2.2.2.1
  have ok : ∀ mo, 1 ≤ mo → mo ≤ 3 → x = nI mo → ((decide (0 ≤ y) && decide (y ≤ 2)) || inb (y - 10) n) = true → ((decide (1 ≤ x) && decide (x ≤ 3)) && ((decide (0 ≤ y) && decide (y ≤ 2)) || inb (y - 10) n)) = false → False := fun mo h1 h2 e1 e2 q => by
    rw [e2, e1, decide_eq_true (p := 1 ≤ nI mo) (nI_le (a := 1) h1 (by omega)), decide_eq_true (p := nI mo ≤ 3) (nI_le (b := 3) h2 (by omega))] at q
    cases q
  refine t_X_exchange (x := (0, -1, -1, gI h 108, gI h 109)) jc.1 hB hb1 hb2 ke ⟨rfl, rfl⟩ (fun h1 x1 ke1 iv => ?_) (fun h1 mo q1 q2 q3 q4 x1 ke1 => ?_)
  · have jm1 := JM_X jm (fz_C x1 (by decide) (by decide))
    have jc1 := JC_fx jc x1 (by decide) ⟨⟨st, s1, s2, KO_fx ko x1 (by decide) (by decide) (by decide)⟩, KK_fx kk x1 (by decide) (by decide) (by decide), ke1, KD_fx kd x1 (by decide) (by decide), KZ_fx kz x1 (by decide) (by decide) (by decide) (by decide) (by decide) (by decide) (by decide)⟩
    exact hR _ h1 (M_K jm1.1.1) (fun S hS => t_M_exchange jm1.1 (fun _ => hS h1 ⟨f, r, n, gg, fi, A, U, K, s, tm, N, B, e1, e2, bx, b, a, hb, jc1, jm1, jp⟩) (fun mo h2 q1 q2 q3 q4 _ => (ok mo q1 q2 q3 q4 iv).elim))
  · have jm1 := JM_X jm (fz_C x1 (by decide) (by decide))
    have jc1 := JC_fx jc x1 (by decide) ⟨⟨st, s1, s2, KO_fx ko x1 (by decide) (by decide) (by decide)⟩, KK_fx kk x1 (by decide) (by decide) (by decide), ke1, KD_fx kd x1 (by decide) (by decide), KZ_fx kz x1 (by decide) (by decide) (by decide) (by decide) (by decide) (by decide) (by decide)⟩
    refine hR _ h1 (M_K jm1.1.1) (fun S hS => t_M_exchange jm1.1 (fun iv => (ok mo q1 q2 q3 q4 iv).elim) (fun mo2 h2 p1 p2 p3 p4 xi => ?_))
    have em : mo2 = mo := by
      rw [q3] at p3
      exact ((nI_eq (by omega) (by omega)).mp p3).symm
    subst em
    have ex : exX h1 r n mo2 = exA f r n mo2 (0, -1, -1, gI h 108, gI h 109) (mo2 + 1) := by
      unfold exX
      rw [jm1.2.1, fx_I x1 (x := 108) (by decide), fx_I x1 (x := 109) (by decide)]
    rw [ex]
    exact hS h2 ⟨f, r, n, gg, fi, A, U, K, s, tm, N, B, e1, e2, bx, b, a, hb, JC_M jc1 (fx_M xi.1 (by decide) (by decide)), JM_fr jm1 xi.1 (by decide) (by decide) (by decide), jp⟩
theorem c_fits {c ρ : Nat} {x : Int32} {R : Int32 → Hp → Prop} (hc : c < 2 ^ 30) (j : JJ c ρ h) (hR : ∀ q h1, gK h1 81 = 12 → (∀ S : Int32 → Hp → Prop, (∀ h2, JJ c ρ h2 → S q h2) → w_M_fits 81 x h1 S) → R q h1) : w_X_fits 16 x h R := by
  obtain ⟨f, r, n, gg, fi, A, U, K, s, tm, N, B, e1, e2, bx, b, a, hb, jc, jm, jp⟩ := j
  obtain ⟨ja, jt, jk, jtm, -⟩ := jc.2.2.2.2
  have hn8 := jc.1.2.1.2.2.2.2.2
  have kS := jm.2.2.2.2.2.2.1
  have kK := jm.2.2.2.2.2.2.2.1
  refine t_X_fits jt jk (hR _ h (M_K jm.1.1) (fun S hS => t_M_fits jm.1 kS (fun h2 x2 => ?_)))
  rw [kK]
  exact hS h2 ⟨f, r, n, gg, fi, A, U, K, s, tm, N, B, e1, e2, bx, b, a, hb, JC_M jc (fx_M x2 (by decide) (by decide)), JM_fr jm x2 (by decide) (by decide) (by decide), jp⟩
theorem c_fit {c ρ : Nat} {x y : Int32} {R : Int32 → Hp → Prop} (hc : c < 2 ^ 30) (j : JJ c ρ h) (hR : ∀ q h1, gK h1 81 = 12 → (∀ S : Int32 → Hp → Prop, (∀ h2, JJ c ρ h2 → S q h2) → w_M_fit 81 x y h1 S) → R q h1) : w_X_fit 16 x y h R := by
  obtain ⟨f, r, n, gg, fi, A, U, K, s, tm, N, B, e1, e2, bx, b, a, hb, jc, jm, jp⟩ := j
  obtain ⟨ja, jt, jk, jtm, -⟩ := jc.2.2.2.2
  have hn8 := jc.1.2.1.2.2.2.2.2
  have kS := jm.2.2.2.2.2.2.1
  have kK := jm.2.2.2.2.2.2.2.1
  obtain ⟨fs1, fs2⟩ := fit_same (F := ftB K r n s y) (v := x) hn8
  refine t_X_fit jt jk (hR _ h (M_K jm.1.1) (fun S hS => t_M_fit jm.1 kS (fun h2 x2 no => ?_) (fun h2 i x2 ei hi => ?_)))
  · rw [kK] at no
    rw [← fs1 no]
    exact hS h2 ⟨f, r, n, gg, fi, A, U, K, s, tm, N, B, e1, e2, bx, b, a, hb, JC_M jc (fx_M x2 (by decide) (by decide)), JM_fr jm x2 (by decide) (by decide) (by decide), jp⟩
  · rw [kK] at hi ⊢
    rw [← fs2 i ei hi]
    exact hS h2 ⟨f, r, n, gg, fi, A, U, K, s, tm, N, B, e1, e2, bx, b, a, hb, JC_M jc (fx_M x2 (by decide) (by decide)), JM_fr jm x2 (by decide) (by decide) (by decide), jp⟩
set_option maxRecDepth 4000 in
theorem JC_ask {f : Nat → Int32} {r n : Nat} {gg : Nat → Nat → Int32} {fi A U : Nat} {K : KT} {s : Nat} {tm : Int32} {N : Nat} {B : Nat → Int32} {e1 e2 : Int32} {bx : Nat → Option (Nat → Int32)} {b ρ a : Nat} {h' : Hp} (k : JC f r n gg fi A U K s tm N B e1 e2 bx b ρ a h) (x : Fx [71, 75] [] h h') (e : ∀ j, j ≠ 8 → j ≠ 9 → gI h' 71 j = gI h 71 j) : JC f r n gg fi A U K s tm N B e1 e2 bx b ρ a h' := by
  obtain ⟨k1, k2, k3, k4, q1, q2, q3, q4, q5, q6, q7, q8, q9⟩ := k
  have hn := k1.2.1.2.2.2.2.2
  refine ⟨CN_fx k1 x (by decide) (by decide), by rw [x.2.2.1]; exact k2, by rw [fx_I x (by decide)]; exact k3, KA_fx k4 x (by decide) (by decide) (by decide) (by decide) (by decide) (by decide) (by decide) (by decide) (by decide) (by decide) (by decide) (by decide) (by decide) (by decide) (by decide) (by decide) (by decide) (by decide) (by decide), AR_fx hn q1 x (by decide) (by decide) (by decide) (by decide) (by decide), CTd_fx q2 x (by decide) (by decide), ?_, by rw [e 7 (by decide) (by decide)]; exact q4, by rw [fx_I x (by decide)]; exact q5, by rw [fx_I x (by decide)]; exact q6, by rw [fx_I x (by decide)]; exact q7, by rw [fx_I x (by decide)]; exact q8, fun β hβ => ?_⟩
  · unfold KX
    rw [e 6 (by decide) (by decide), fx_I x (x := 72) (by decide), fx_I x (x := 73) (by decide), fx_I x (x := 74) (by decide)]
    exact q3
  · match β, hβ with
    | 0, _ => exact BXx_eq (q9 0 (by decide)) (fx_I x (by decide)) (fx_I x (by decide)) (fx_I x (by decide))
    | 1, _ => exact BXx_eq (q9 1 (by decide)) (fx_I x (by decide)) (fx_I x (by decide)) (fx_I x (by decide))
theorem c_ask {c ρ : Nat} {x y z : Int32} {R : Int32 → Hp → Prop} (hc : c < 2 ^ 30) (j : JJ c ρ h) (hR : ∀ q h1, gK h1 81 = 12 → (∀ S : Int32 → Hp → Prop, (∀ h2, JJ c ρ h2 → S q h2) → w_M_ask 81 x y z h1 S) → R q h1) : w_X_ask 16 x y z h R := by
  obtain ⟨f, r, n, gg, fi, A, U, K, s, tm, N, B, e1, e2, bx, b, a, hb, jc, jm, jp⟩ := j
  obtain ⟨ja, jt, jk, jtm, -⟩ := jc.2.2.2.2
  have hn8 := jc.1.2.1.2.2.2.2.2
  have kS := jm.2.2.2.2.2.2.1
  have kK := jm.2.2.2.2.2.2.2.1
  have ok : ∀ t, t ≤ 8 → x = nI t → (decide (0 ≤ y) && decide (y ≤ 1)) = true → ((decide (0 ≤ x) && decide (x ≤ 8)) && (decide (0 ≤ y) && decide (y ≤ 1))) = false → False := fun t h1 e1 h2 q => by
    rw [e1, h2, in_ok (M := 8) rfl (by decide) h1] at q
    cases q
  refine t_X_ask jt jk (fun iv => hR _ h (M_K jm.1.1) (fun S hS => t_M_ask jm.1 kS (fun _ => hS h ⟨f, r, n, gg, fi, A, U, K, s, tm, N, B, e1, e2, bx, b, a, hb, jc, jm, jp⟩) (fun h2 x2 _ => hS h2 ⟨f, r, n, gg, fi, A, U, K, s, tm, N, B, e1, e2, bx, b, a, hb, JC_M jc (fx_M x2 (by decide) (by decide)), JM_fr jm x2 (by decide) (by decide) (by decide), jp⟩) (fun h2 t q1 q2 q3 _ _ => (ok t q1 q2 q3 iv).elim))) (fun c0 => hR _ h (M_K jm.1.1) (fun S hS => t_M_ask jm.1 kS (fun _ => hS h ⟨f, r, n, gg, fi, A, U, K, s, tm, N, B, e1, e2, bx, b, a, hb, jc, jm, jp⟩) (fun h2 x2 _ => hS h2 ⟨f, r, n, gg, fi, A, U, K, s, tm, N, B, e1, e2, bx, b, a, hb, JC_M jc (fx_M x2 (by decide) (by decide)), JM_fr jm x2 (by decide) (by decide) (by decide), jp⟩) (fun h2 t q1 q2 q3 cn _ => ?_))) (fun h1 t q1 q2 q3 cn x1 o1 => ?_)
  · rw [kK] at cn
    exact absurd c0 cn
  · have jm1 := JM_X jm (fz_C x1 (by decide) (by decide))
    have jc1 := JC_ask jc x1 o1
    have kK1 := jm1.2.2.2.2.2.2.2.1
    refine hR _ h1 (M_K jm1.1.1) (fun S hS => t_M_ask jm1.1 jm1.2.2.2.2.2.2.1 (fun iv => (ok t q1 q2 q3 iv).elim) (fun h2 x2 c0 => ?_) (fun h2 t2 p1 p2 p3 p4 x2 => ?_))
    · rw [kK1] at c0
      exact absurd c0 cn
    · have et : t2 = t := by
        rw [q2] at p2
        exact ((nI_eq (by omega) (by omega)).mp p2).symm
      subst et
      rw [kK1]
      exact hS h2 ⟨f, r, n, gg, fi, A, U, K, s, tm, N, B, e1, e2, bx, b, a, hb, JC_M jc1 (fx_M x2 (by decide) (by decide)), JM_fr jm1 x2 (by decide) (by decide) (by decide), jp⟩
theorem c_about {c ρ : Nat} {x : Int32} {R : Int32 → Hp → Prop} (hc : c < 2 ^ 30) (j : JJ c ρ h) (hR : ∀ q h1, gK h1 81 = 12 → (∀ S : Int32 → Hp → Prop, (∀ h2, JJ c ρ h2 → S q h2) → w_M_about 81 x h1 S) → R q h1) : w_X_about 16 x h R := by
  obtain ⟨f, r, n, gg, fi, A, U, K, s, tm, N, B, e1, e2, bx, b, a, hb, jc, jm, jp⟩ := j
  have hr3 := jc.1.2.1.2.2.2.2.1
  have hn8 := jc.1.2.1.2.2.2.2.2
  have hZ := jc.1.2.2.2.2.2.2.1
  have q := jc.2.2.2.2
  have e : abx f h r n x = abt h r n x := by
    unfold abx abt
    rw [q.1.2.2.1, q.1.2.2.2.1, q.2.2.1.1, q.2.2.2.1, q.2.2.2.2.1, jm.2.1, jm.2.2.2.1, jm.2.2.2.2.1, jm.2.2.2.2.2.2.1.1, jm.2.2.2.2.2.2.2.2.1, jm.2.2.2.2.2.2.2.2.2.1, mx_gr hr3 hn8 hZ]
    generalize x.toInt = y
    cases y with
    | negSucc k => rfl
    | ofNat k =>
      match k with
      | 0 => rfl
      | 1 => rfl
      | 2 => rfl
      | 3 => rfl
      | 4 => rfl
      | 5 => rfl
      | 6 => rfl
      | 7 => rfl
      | 8 => rfl
      | _ + 9 => rfl
  refine t_X_about jc.1 (hR _ h (M_K jm.1.1) (fun S hS => t_M_about jm.1 ?_))
  rw [← e]
  exact hS h ⟨f, r, n, gg, fi, A, U, K, s, tm, N, B, e1, e2, bx, b, a, hb, jc, jm, jp⟩
