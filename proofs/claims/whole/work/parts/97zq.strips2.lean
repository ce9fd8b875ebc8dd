/-! Class and reference: strips -/
variable {h : Hp}
/-- a heap's contents below 120 -/
def lo (h h' : Hp) : Hp := (fun a k => if a < 120 then gI h' a k else gI h a k, fun a k => if a < 120 then gL h' a k else gL h a k, h.2.2)
theorem fx_lo {as js : List Nat} {h' : Hp} (x : Fz as js h h') : Fx as js h (lo h h') := by
  refine ⟨rfl, rfl, rfl, fun _ _ _ => rfl, fun a k ha => ?_, fun a k ha => ?_⟩
  · show (if a < 120 then gI h' a k else gI h a k) = _
    by_cases g : a < 120
    · rw [if_pos g]; exact x.2.2.2.2.1 a k g ha
    · rw [if_neg g]
  · show (if a < 120 then gL h' a k else gL h a k) = _
    by_cases g : a < 120
    · rw [if_pos g]; exact x.2.2.2.2.2 a k g ha
    · rw [if_neg g]
theorem lo_I {h' : Hp} {a : Nat} (ha : a < 120) : gI (lo h h') a = gI h' a := by
  funext k
  show (if a < 120 then gI h' a k else gI h a k) = _
  rw [if_pos ha]
theorem lo_L {h' : Hp} {a : Nat} (ha : a < 120) : gL (lo h h') a = gL h' a := by
  funext k
  show (if a < 120 then gL h' a k else gL h a k) = _
  rw [if_pos ha]
theorem KO_eq {f : Nat → Int32} {r n st b : Nat} {h' : Hp} (k : KO f r n st b h) (e50 : gI h' 50 = gI h 50) (e51 : gI h' 51 = gI h 51) (e53 : gI h' 53 = gI h 53) : KO f r n st b h' := by
  unfold KO VO at k ⊢
  rw [e50, e51, e53]
  exact k
theorem KK_eq {f : Nat → Int32} {n b : Nat} {h' : Hp} (k : KK f n b h) (e56 : gI h' 56 = gI h 56) (l56 : gL h' 56 = gL h 56) (l59 : gL h' 59 = gL h 59) : KK f n b h' := by
  unfold KK VC KC at k ⊢
  rw [e56, l56, l59]
  exact k
theorem YB_eq {f : Nat → Int32} {n : Nat} {h' : Hp} {o : Option CT} (k : YB f n h o) (e60 : gI h' 60 = gI h 60) : YB f n h' o := by
  cases o with
  | none =>
    show gI h' 60 8 = 0
    rw [e60]
    exact k
  | some c =>
    show gI h' 60 8 = xG f n c.2.2.1 c.2.2.2 ∧ gI h' 60 9 = nI c.1 ∧ gI h' 60 10 = nI c.2.1 ∧ gI h' 60 11 = nI c.2.2.1 ∧ gI h' 60 12 = nI c.2.2.2
    rw [e60]
    exact k
theorem KE_eq {f : Nat → Int32} {r n b : Nat} {h' : Hp} (k : KE f r n b h) (e60 : gI h' 60 = gI h 60) (e62 : gI h' 62 = gI h 62) (e63 : gI h' 63 = gI h 63) (e64 : gI h' 64 = gI h 64) : KE f r n b h' := by
  unfold KE at k ⊢
  rw [e60]
  rcases k with k | ⟨c, mo, q1, q2, q3, q4, q5⟩
  · exact Or.inl k
  · refine Or.inr ⟨c, mo, q1, q2, q3, q4, fun e => ?_⟩
    obtain ⟨v1, o, v2, v3⟩ := q5 e
    refine ⟨?_, o, YB_eq v2 e60, v3⟩
    unfold EX
    rw [e62, e63, e64]
    exact v1
theorem KD_eq {f : Nat → Int32} {r n b : Nat} {h' : Hp} (k : KD f r n b h) (e65 : gI h' 65 = gI h 65) (e66 : gI h' 66 = gI h 66) : KD f r n b h' := by
  unfold KD VD at k ⊢
  rw [e65, e66]
  exact k
theorem AR_eq {g : Nat → Nat → Int32} {n fi A U : Nat} {h' : Hp} (hn : n ≤ 8) (k : AR g n fi A U h) (e30 : gI h' 30 = gI h 30) (e31 : gI h' 31 = gI h 31) (e32 : gI h' 32 = gI h 32) (e33 : gI h' 33 = gI h 33) (e34 : gI h' 34 = gI h 34) : AR g n fi A U h' := by
  obtain ⟨q1, q2, q3, q4, q5, q6⟩ := k
  exact ⟨by rw [e30]; exact q1, q2, by rw [e30]; exact q3, by rw [e30]; exact q4, q5, fun k hk => AT_eq hn (q6 k hk) (by rw [e31]) (by rw [e32]) (by rw [e33]) (fun c _ => by rw [e34])⟩
theorem KX_eq {K : KT} {r n s : Nat} {h' : Hp} (k : KX K r n s h) (e71 : gI h' 71 = gI h 71) (e72 : gI h' 72 = gI h 72) (e73 : gI h' 73 = gI h 73) (e74 : gI h' 74 = gI h 74) : KX K r n s h' := by
  unfold KX at k ⊢
  rw [e71, e72, e73, e74]
  exact k
set_option maxRecDepth 4000 in
theorem JC_fz {f : Nat → Int32} {r n : Nat} {gg : Nat → Nat → Int32} {fi A U : Nat} {K : KT} {s : Nat} {tm : Int32} {N : Nat} {B : Nat → Int32} {e1 e2 : Int32} {bx : Nat → Option (Nat → Int32)} {b ρ a ρ' a' : Nat} {as js : List Nat} {h' : Hp} (k : JC f r n gg fi A U K s tm N B e1 e2 bx b ρ a h) (x : Fz as js h h') (h1 : ∀ y ∈ as, y ∈ [35, 36, 37, 38, 39, 40, 41, 42, 43, 44, 45, 76]) (h2 : ∀ y ∈ js, y ∈ [42]) (kz : KZ f r n b ρ' a' h') : JC f r n gg fi A U K s tm N B e1 e2 bx b ρ' a' h' := by
  have nA : ∀ y, y ∉ [35, 36, 37, 38, 39, 40, 41, 42, 43, 44, 45, 76] → y ∉ as := fun y hy q => hy (h1 y q)
  have nJ : ∀ y, y ∉ [42] → y ∉ js := fun y hy q => hy (h2 y q)
  have I : ∀ y, y < 120 → y ∉ [35, 36, 37, 38, 39, 40, 41, 42, 43, 44, 45, 76] → gI h' y = gI h y := fun y h0 hy => fz_I x h0 (nA y hy)
  have L : ∀ y, y < 120 → y ∉ [42] → gL h' y = gL h y := fun y h0 hy => fz_L x h0 (nJ y hy)
  obtain ⟨k1, k2, k3, ⟨⟨st, s1, s2, ko⟩, kk, ke, kd, -⟩, q1, q2, q3, q4, q5, q6, q7, q8, q9⟩ := k
  have hn := k1.2.1.2.2.2.2.2
  refine ⟨CN_fz k1 x (nA _ (by decide)) (nA _ (by decide)), Nat.le_trans k2 x.1, by rw [I 21 (by decide) (by decide)]; exact k3, ⟨⟨st, s1, s2, KO_eq ko (I _ (by decide) (by decide)) (I _ (by decide) (by decide)) (I _ (by decide) (by decide))⟩, KK_eq kk (I _ (by decide) (by decide)) (L _ (by decide) (by decide)) (L _ (by decide) (by decide)), KE_eq ke (I _ (by decide) (by decide)) (I _ (by decide) (by decide)) (I _ (by decide) (by decide)) (I _ (by decide) (by decide)), KD_eq kd (I _ (by decide) (by decide)) (I _ (by decide) (by decide)), kz⟩, AR_eq hn q1 (I _ (by decide) (by decide)) (I _ (by decide) (by decide)) (I _ (by decide) (by decide)) (I _ (by decide) (by decide)) (I _ (by decide) (by decide)), ?_, KX_eq q3 (I _ (by decide) (by decide)) (I _ (by decide) (by decide)) (I _ (by decide) (by decide)) (I _ (by decide) (by decide)), by rw [I 71 (by decide) (by decide)]; exact q4, by rw [I 17 (by decide) (by decide)]; exact q5, by rw [I 18 (by decide) (by decide)]; exact q6, by rw [I 23 (by decide) (by decide)]; exact q7, by rw [I 23 (by decide) (by decide)]; exact q8, fun β hβ => ?_⟩
  · obtain ⟨a1, a2, a3, a4, a5, a6⟩ := q2
    refine ⟨fz_XS x a1, ⟨fz_CO x (by decide) (by decide) (by decide) a2.1, ?_, ?_, a2.2.2.2⟩, ?_, a4, a5, Nat.le_trans a6 x.1⟩
    · rw [I 19 (by decide) (by decide)]; exact a2.2.1
    · rw [I 19 (by decide) (by decide)]; exact a2.2.2.1
    · rw [I 20 (by decide) (by decide)]; exact a3
  · match β, hβ with
    | 0, _ => exact BXx_eq (q9 0 (by decide)) (I _ (by decide) (by decide)) (I _ (by decide) (by decide)) (I _ (by decide) (by decide))
    | 1, _ => exact BXx_eq (q9 1 (by decide)) (I _ (by decide) (by decide)) (I _ (by decide) (by decide)) (I _ (by decide) (by decide))
/-- what may still be made, by the room that there is -/
def ptC (ρ : Nat) : Nat := if ρ < 25 then 12 else if ρ < 625 then 8 else if ρ < 15625 then 4 else 0
def ptS (ρ : Nat) : Nat := if ρ < 25 then 110875 else if ρ < 625 then 110704 else if ρ < 15625 then 106446 else 0
theorem pot_ok {r ρ : Nat} (h1 : 1 ≤ r) (hr : r ≤ 3) (hρ : ρ = 0 ∨ ρ = 25 ∨ ρ = 625 ∨ ρ = 15625) : csC r ρ + ptC (max ρ (25 ^ r)) ≤ ptC ρ ∧ csS r ρ + ptS (max ρ (25 ^ r)) ≤ ptS ρ := by
  match r, h1, hr with
  | 1, _, _ => rcases hρ with rfl | rfl | rfl | rfl <;> decide
  | 2, _, _ => rcases hρ with rfl | rfl | rfl | rfl <;> decide
  | 3, _, _ => rcases hρ with rfl | rfl | rfl | rfl <;> decide
theorem x_strip_bad {t w v : Int32} {bc bs : Nat} {Q : Int32 → Hp → Prop} (z : (isSt t w && (decide (0 ≤ v) && decide (v ≤ 1))) = false) (hq : Q (-1) h) : w_X_strip bc bs 16 t w v h Q := by
  unfold w_X_strip
  refine t_X_isStrip ⟨fun _ => hq, fun z1 => ⟨fun _ => hq, fun z2 => ⟨fun z3 => ?_, fun _ => hq⟩⟩⟩
  rw [ntf z1, decide_eq_true (Int32.not_lt.mp z2), decide_eq_true z3] at z
  cases z
theorem x_walks_bad {t w : Int32} {bc bs : Nat} {Q : Int64 → Hp → Prop} (z : isSt t w = false) (hq : Q (-1) h) : w_X_walks bc bs 16 t w h Q := by
  unfold w_X_walks
  exact t_X_isStrip ⟨fun _ => hq, fun z1 => absurd z z1⟩
theorem x_best_bad {t w : Int32} {bc bs : Nat} {Q : Int32 → Hp → Prop} (z : isSt t w = false) (hq : Q (-1000001) h) : w_X_best bc bs 16 t w h Q := by
  unfold w_X_best
  exact t_X_isStrip ⟨fun _ => hq, fun z1 => absurd z z1⟩
theorem x_step_bad {t w v : Int32} {bc bs : Nat} {Q : Int32 → Hp → Prop} (z : (isSt t w && (decide (0 ≤ v) && decide (v ≤ t - 1))) = false) (hq : Q (-1) h) : w_X_step bc bs 16 t w v h Q := by
  unfold w_X_step
  refine t_X_isStrip ⟨fun _ => hq, fun z1 => ?_⟩
  obtain ⟨t', w', ht, hw, rfl, rfl⟩ := isStrip_nI z1
  rw [isIn_inb (by omega), ntf z1, Bool.true_and] at z
  refine ⟨fun _ => hq, fun z2 => ⟨fun z3 => ?_, fun _ => hq⟩⟩
  exact absurd z3 (Int32.not_lt.mpr ((ge_inb (by omega) z2).mpr z))
theorem x_narrow_bad {t : Int32} {bc bs : Nat} {Q : Int32 → Hp → Prop} (z : (decide (0 ≤ t) && decide (t ≤ 12)) = false) (hq : Q (-1) h) : w_X_narrow bc bs 16 t h Q := by
  unfold w_X_narrow
  exact t_X_isLength ⟨fun _ => hq, fun z1 => absurd z z1⟩
theorem isSt_ok {t w : Nat} (ht : t ≤ 12) (hw : w ≤ 12) : isSt (nI t) (nI w) = true := by
  unfold isSt
  rw [in_ok (M := 12) rfl (by decide) ht, in_ok (M := 12) rfl (by decide) hw]
  rfl
theorem c_strip {c ρ : Nat} {x y z : Int32} (hc : c < 2 ^ 30) (j : JJ c ρ h) : ∃ mc ms, mc ≤ ptC ρ ∧ ms ≤ ptS ρ ∧ ∀ R : Int32 → Hp → Prop, (∀ q h1 ρ', mc + ptC ρ' ≤ ptC ρ → ms + ptS ρ' ≤ ptS ρ → gK h1 81 = 12 → (∀ S : Int32 → Hp → Prop, (∀ h2, JJ c ρ' h2 → S q h2) → w_M_strip 81 x y z h1 S) → R q h1) → w_X_strip mc ms 16 x y z h R := by
  obtain ⟨f, r, n, gg, fi, A, U, K, s, tm, N, B, e1, e2, bx, b, a, hb, jc, jm, jp⟩ := j
  obtain ⟨⟨st, s1, s2, ko⟩, kk, ke, kd, kz⟩ := jc.2.2.2.1
  have hb1 := jc.2.2.1
  have hb2 : b < 2 ^ 31 := by omega
  have hF := jc.1.2.2.2.1
  have hN := jc.1.2.2.2.2.1
  have hG := jc.1.2.2.2.2.2.1
  have hZ := jc.1.2.2.2.2.2.2.1
  have hr1 := jc.1.2.1.2.2.2.1
  have hr3 := jc.1.2.1.2.2.2.2.1
  have hX := jc.2.1
  have pot := pot_ok hr1 hr3 kz.2.1
  cases vz : (isSt x y && (decide (0 ≤ z) && decide (z ≤ 1))) with
  | false =>
    refine ⟨0, 0, Nat.zero_le _, Nat.zero_le _, fun R hR => x_strip_bad vz (hR _ h ρ (by omega) (by omega) (M_K jm.1.1) (fun S hS => t_M_strip jm.1 jm.2.1 hF hN jm.2.2.1 (fun _ => hS h ⟨f, r, n, gg, fi, A, U, K, s, tm, N, B, e1, e2, bx, b, a, hb, jc, jm, jp⟩) (fun h2 t2 w2 p1 p2 p3 p4 _ _ => ⟨fun e0 => ?_, fun e0 => ?_⟩)))⟩
    · rw [p3, p4, e0, isSt_ok p1 p2] at vz
      exact absurd vz (by decide)
    · rw [p3, p4, e0, isSt_ok p1 p2] at vz
      exact absurd vz (by decide)
  | true =>
    refine ⟨csC r ρ, csS r ρ, by omega, by omega, fun R hR => t_X_strip jc.1 hX hb1 hb2 kz (Nat.le_refl _) (Nat.le_refl _) (fun q => by rw [vz] at q; cases q) (fun h1 ρ' a' t' w' q1 q2 q3 q4 x1 kz1 er => ?_)⟩
    have jm1 := JM_X jm (fz_mono x1 (by decide) (by decide))
    have jc1 := JC_fz jc x1 (by decide) (by decide) kz1
    subst er
    refine ⟨fun e0 => hR _ h1 _ pot.1 pot.2 (M_K jm1.1.1) (fun S hS => t_M_strip jm1.1 jm1.2.1 hF hN jm1.2.2.1 (fun q => by rw [vz] at q; cases q) (fun h2 t2 w2 p1 p2 p3 p4 x2 cv => ?_)), fun e0 => hR _ h1 _ pot.1 pot.2 (M_K jm1.1.1) (fun S hS => t_M_strip jm1.1 jm1.2.1 hF hN jm1.2.2.1 (fun q => by rw [vz] at q; cases q) (fun h2 t2 w2 p1 p2 p3 p4 x2 cv => ?_))⟩
    · have et : t2 = t' := by
        rw [q3] at p3
        exact ((nI_eq (by omega) (by omega)).mp p3).symm
      have ew : w2 = w' := by
        rw [q4] at p4
        exact ((nI_eq (by omega) (by omega)).mp p4).symm
      subst et
      subst ew
      exact ⟨fun _ => hS h2 ⟨f, r, n, gg, fi, A, U, K, s, tm, N, B, e1, e2, bx, b, a', hb, JC_M jc1 (fx_M x2 (by decide) (by decide)), JM_frS jm1 x2 (by decide) (by decide) (Or.inr ⟨t2, w2, p1, p2, cv⟩), jp⟩, fun e1 => absurd (e0.symm.trans e1) (by decide)⟩
    · have et : t2 = t' := by
        rw [q3] at p3
        exact ((nI_eq (by omega) (by omega)).mp p3).symm
      have ew : w2 = w' := by
        rw [q4] at p4
        exact ((nI_eq (by omega) (by omega)).mp p4).symm
      subst et
      subst ew
      exact ⟨fun e1 => absurd (e1.symm.trans e0) (by decide), fun _ => hS h2 ⟨f, r, n, gg, fi, A, U, K, s, tm, N, B, e1, e2, bx, b, a', hb, JC_M jc1 (fx_M x2 (by decide) (by decide)), JM_frS jm1 x2 (by decide) (by decide) (Or.inr ⟨t2, w2, p1, p2, cv⟩), jp⟩⟩
theorem c_walks {c ρ : Nat} {x y : Int32} (hc : c < 2 ^ 30) (j : JJ c ρ h) : ∃ mc ms, mc ≤ ptC ρ ∧ ms ≤ ptS ρ ∧ ∀ R : Int64 → Hp → Prop, (∀ q h1 ρ', mc + ptC ρ' ≤ ptC ρ → ms + ptS ρ' ≤ ptS ρ → gK h1 81 = 12 → (∀ S : Int64 → Hp → Prop, (∀ h2, JJ c ρ' h2 → S q h2) → w_M_walks 81 x y h1 S) → R q h1) → w_X_walks mc ms 16 x y h R := by
  obtain ⟨f, r, n, gg, fi, A, U, K, s, tm, N, B, e1, e2, bx, b, a, hb, jc, jm, jp⟩ := j
  obtain ⟨⟨st, s1, s2, ko⟩, kk, ke, kd, kz⟩ := jc.2.2.2.1
  have hb1 := jc.2.2.1
  have hb2 : b < 2 ^ 31 := by omega
  have hF := jc.1.2.2.2.1
  have hN := jc.1.2.2.2.2.1
  have hG := jc.1.2.2.2.2.2.1
  have hZ := jc.1.2.2.2.2.2.2.1
  have hr1 := jc.1.2.1.2.2.2.1
  have hr3 := jc.1.2.1.2.2.2.2.1
  have hX := jc.2.1
  have pot := pot_ok hr1 hr3 kz.2.1
  cases vz : isSt x y with
  | false =>
    refine ⟨0, 0, Nat.zero_le _, Nat.zero_le _, fun R hR => x_walks_bad vz (hR _ h ρ (by omega) (by omega) (M_K jm.1.1) (fun S hS => t_M_walks jm.1 jm.2.1 hF hN jm.2.2.1 (fun _ => hS h ⟨f, r, n, gg, fi, A, U, K, s, tm, N, B, e1, e2, bx, b, a, hb, jc, jm, jp⟩) (fun h2 t2 w2 p1 p2 p3 p4 _ _ => ?_)))⟩
    rw [p3, p4, isSt_ok p1 p2] at vz
    cases vz
  | true =>
    refine ⟨csC r ρ, csS r ρ, by omega, by omega, fun R hR => t_X_walks jc.1 hX hb1 hb2 kz (Nat.le_refl _) (Nat.le_refl _) (fun q => by rw [vz] at q; cases q) (fun h1 ρ' a' t' w' q1 q2 q3 q4 x1 kz1 er => ?_)⟩
    have jm1 := JM_X jm (fz_mono x1 (by decide) (by decide))
    have jc1 := JC_fz jc x1 (by decide) (by decide) kz1
    subst er
    refine hR _ h1 _ pot.1 pot.2 (M_K jm1.1.1) (fun S hS => t_M_walks jm1.1 jm1.2.1 hF hN jm1.2.2.1 (fun q => by rw [vz] at q; cases q) (fun h2 t2 w2 p1 p2 p3 p4 x2 cv => ?_))
    have et : t2 = t' := by
      rw [q3] at p3
      exact ((nI_eq (by omega) (by omega)).mp p3).symm
    have ew : w2 = w' := by
      rw [q4] at p4
      exact ((nI_eq (by omega) (by omega)).mp p4).symm
    subst et
    subst ew
    exact hS h2 ⟨f, r, n, gg, fi, A, U, K, s, tm, N, B, e1, e2, bx, b, a', hb, JC_M jc1 (fx_M x2 (by decide) (by decide)), JM_frS jm1 x2 (by decide) (by decide) (Or.inr ⟨t2, w2, p1, p2, cv⟩), jp⟩
theorem c_best {c ρ : Nat} {x y : Int32} (hc : c < 2 ^ 30) (j : JJ c ρ h) : ∃ mc ms, mc ≤ ptC ρ ∧ ms ≤ ptS ρ ∧ ∀ R : Int32 → Hp → Prop, (∀ q h1 ρ', mc + ptC ρ' ≤ ptC ρ → ms + ptS ρ' ≤ ptS ρ → gK h1 81 = 12 → (∀ S : Int32 → Hp → Prop, (∀ h2, JJ c ρ' h2 → S q h2) → w_M_best 81 x y h1 S) → R q h1) → w_X_best mc ms 16 x y h R := by
  obtain ⟨f, r, n, gg, fi, A, U, K, s, tm, N, B, e1, e2, bx, b, a, hb, jc, jm, jp⟩ := j
  obtain ⟨⟨st, s1, s2, ko⟩, kk, ke, kd, kz⟩ := jc.2.2.2.1
  have hb1 := jc.2.2.1
  have hb2 : b < 2 ^ 31 := by omega
  have hF := jc.1.2.2.2.1
  have hN := jc.1.2.2.2.2.1
  have hG := jc.1.2.2.2.2.2.1
  have hZ := jc.1.2.2.2.2.2.2.1
  have hr1 := jc.1.2.1.2.2.2.1
  have hr3 := jc.1.2.1.2.2.2.2.1
  have hX := jc.2.1
  have pot := pot_ok hr1 hr3 kz.2.1
  cases vz : isSt x y with
  | false =>
    refine ⟨0, 0, Nat.zero_le _, Nat.zero_le _, fun R hR => x_best_bad vz (hR _ h ρ (by omega) (by omega) (M_K jm.1.1) (fun S hS => t_M_best jm.1 jm.2.1 hF hN jm.2.2.1 (fun _ => hS h ⟨f, r, n, gg, fi, A, U, K, s, tm, N, B, e1, e2, bx, b, a, hb, jc, jm, jp⟩) (fun h2 t2 w2 p1 p2 p3 p4 _ _ => ?_)))⟩
    rw [p3, p4, isSt_ok p1 p2] at vz
    cases vz
  | true =>
    refine ⟨csC r ρ, csS r ρ, by omega, by omega, fun R hR => t_X_best jc.1 hX hb1 hb2 kz (Nat.le_refl _) (Nat.le_refl _) (fun q => by rw [vz] at q; cases q) (fun h1 ρ' a' t' w' q1 q2 q3 q4 x1 kz1 er => ?_)⟩
    have jm1 := JM_X jm (fz_mono x1 (by decide) (by decide))
    have jc1 := JC_fz jc x1 (by decide) (by decide) kz1
    subst er
    refine hR _ h1 _ pot.1 pot.2 (M_K jm1.1.1) (fun S hS => t_M_best jm1.1 jm1.2.1 hF hN jm1.2.2.1 (fun q => by rw [vz] at q; cases q) (fun h2 t2 w2 p1 p2 p3 p4 x2 cv => ?_))
    have et : t2 = t' := by
      rw [q3] at p3
      exact ((nI_eq (by omega) (by omega)).mp p3).symm
    have ew : w2 = w' := by
      rw [q4] at p4
      exact ((nI_eq (by omega) (by omega)).mp p4).symm
    subst et
    subst ew
    exact hS h2 ⟨f, r, n, gg, fi, A, U, K, s, tm, N, B, e1, e2, bx, b, a', hb, JC_M jc1 (fx_M x2 (by decide) (by decide)), JM_frS jm1 x2 (by decide) (by decide) (Or.inr ⟨t2, w2, p1, p2, cv⟩), jp⟩
theorem c_step {c ρ : Nat} {x y z : Int32} (hc : c < 2 ^ 30) (j : JJ c ρ h) : ∃ mc ms, mc ≤ ptC ρ ∧ ms ≤ ptS ρ ∧ ∀ R : Int32 → Hp → Prop, (∀ q h1 ρ', mc + ptC ρ' ≤ ptC ρ → ms + ptS ρ' ≤ ptS ρ → gK h1 81 = 12 → (∀ S : Int32 → Hp → Prop, (∀ h2, JJ c ρ' h2 → S q h2) → w_M_step 81 x y z h1 S) → R q h1) → w_X_step mc ms 16 x y z h R := by
  obtain ⟨f, r, n, gg, fi, A, U, K, s, tm, N, B, e1, e2, bx, b, a, hb, jc, jm, jp⟩ := j
  obtain ⟨⟨st, s1, s2, ko⟩, kk, ke, kd, kz⟩ := jc.2.2.2.1
  have hb1 := jc.2.2.1
  have hb2 : b < 2 ^ 31 := by omega
  have hF := jc.1.2.2.2.1
  have hN := jc.1.2.2.2.2.1
  have hG := jc.1.2.2.2.2.2.1
  have hZ := jc.1.2.2.2.2.2.2.1
  have hr1 := jc.1.2.1.2.2.2.1
  have hr3 := jc.1.2.1.2.2.2.2.1
  have hX := jc.2.1
  have pot := pot_ok hr1 hr3 kz.2.1
  cases vz : (isSt x y && (decide (0 ≤ z) && decide (z ≤ x - 1))) with
  | false =>
    refine ⟨0, 0, Nat.zero_le _, Nat.zero_le _, fun R hR => x_step_bad vz (hR _ h ρ (by omega) (by omega) (M_K jm.1.1) (fun S hS => t_M_step jm.1 jm.2.1 hF hN hG jm.2.2.1 (fun _ => hS h ⟨f, r, n, gg, fi, A, U, K, s, tm, N, B, e1, e2, bx, b, a, hb, jc, jm, jp⟩) (fun h2 t2 w2 i2 p1 p2 pi p3 p4 p5 _ _ => ?_)))⟩
    rw [p3, p4, p5, isSt_ok p1 p2, isIn_inb (by omega), inb_nI (by omega) pi] at vz
    cases vz
  | true =>
    refine ⟨csC r ρ, csS r ρ, by omega, by omega, fun R hR => t_X_step jc.1 hX hb1 hb2 kz (Nat.le_refl _) (Nat.le_refl _) (fun q => by rw [vz] at q; cases q) (fun h1 ρ' a' t' w' i q1 q2 qi q3 q4 q5 x1 kz1 er => ?_)⟩
    have jm1 := JM_X jm (fz_mono x1 (by decide) (by decide))
    have jc1 := JC_fz jc x1 (by decide) (by decide) kz1
    subst er
    refine hR _ h1 _ pot.1 pot.2 (M_K jm1.1.1) (fun S hS => t_M_step jm1.1 jm1.2.1 hF hN hG jm1.2.2.1 (fun q => by rw [vz] at q; cases q) (fun h2 t2 w2 i2 p1 p2 pi p3 p4 p5 x2 cv => ?_))
    have et : t2 = t' := by
      rw [q3] at p3
      exact ((nI_eq (by omega) (by omega)).mp p3).symm
    have ew : w2 = w' := by
      rw [q4] at p4
      exact ((nI_eq (by omega) (by omega)).mp p4).symm
    subst et
    subst ew
    have ei : i2 = i := by
      rw [q5] at p5
      exact ((nI_eq (by omega) (by omega)).mp p5).symm
    subst ei
    exact hS h2 ⟨f, r, n, gg, fi, A, U, K, s, tm, N, B, e1, e2, bx, b, a', hb, JC_M jc1 (fx_M x2 (by decide) (by decide)), JM_frS jm1 x2 (by decide) (by decide) (Or.inr ⟨t2, w2, p1, p2, cv⟩), jp⟩
theorem c_narrow {c ρ : Nat} {x : Int32} (hc : c < 2 ^ 30) (j : JJ c ρ h) : ∃ mc ms, mc ≤ ptC ρ ∧ ms ≤ ptS ρ ∧ ∀ R : Int32 → Hp → Prop, (∀ q h1 ρ', mc + ptC ρ' ≤ ptC ρ → ms + ptS ρ' ≤ ptS ρ → gK h1 81 = 12 → (∀ S : Int32 → Hp → Prop, (∀ h2, JJ c ρ' h2 → S q h2) → w_M_narrow 81 x h1 S) → R q h1) → w_X_narrow mc ms 16 x h R := by
  obtain ⟨f, r, n, gg, fi, A, U, K, s, tm, N, B, e1, e2, bx, b, a, hb, jc, jm, jp⟩ := j
  obtain ⟨⟨st, s1, s2, ko⟩, kk, ke, kd, kz⟩ := jc.2.2.2.1
  have hb1 := jc.2.2.1
  have hb2 : b < 2 ^ 31 := by omega
  have hF := jc.1.2.2.2.1
  have hN := jc.1.2.2.2.2.1
  have hG := jc.1.2.2.2.2.2.1
  have hZ := jc.1.2.2.2.2.2.2.1
  have hr1 := jc.1.2.1.2.2.2.1
  have hr3 := jc.1.2.1.2.2.2.2.1
  have hX := jc.2.1
  have pot := pot_ok hr1 hr3 kz.2.1
  cases vz : (decide (0 ≤ x) && decide (x ≤ 12)) with
  | false =>
    refine ⟨0, 0, Nat.zero_le _, Nat.zero_le _, fun R hR => x_narrow_bad vz (hR _ h ρ (by omega) (by omega) (M_K jm.1.1) (fun S hS => t_M_narrow jm.1 jm.2.1 hF hN jm.2.2.1 (fun _ => hS h ⟨f, r, n, gg, fi, A, U, K, s, tm, N, B, e1, e2, bx, b, a, hb, jc, jm, jp⟩) (fun h2 t2 p1 p3 _ _ => ?_)))⟩
    rw [p3, in12 p1] at vz
    cases vz
  | true =>
    obtain ⟨t0, ht0, et0⟩ := in_nI (k := 12) (v := x) (M := 12) rfl (by rw [vz]; decide)
    have un : ∀ t', t' ≤ 12 → x = nI t' → t' = t0 := fun t' h1 e => by
      rw [et0] at e
      exact ((nI_eq (by omega) (by omega)).mp e).symm
    by_cases g : cntL f r n (PL n t0) = 0
    · refine ⟨0, 0, Nat.zero_le _, Nat.zero_le _, fun R hR => t_X_narrow jc.1 hX hb1 hb2 kz (fun q => ?_) (fun q => by rw [vz] at q; cases q) (fun h1 ρ' a' t' q1 q3 x1 kz1 er0 _ => ?_)⟩
      · obtain ⟨t', h1, h2, h3⟩ := q
        have e := un t' h1 h2
        subst e
        exact absurd g h3
      · have e := un t' q1 q3
        subst e
        have er := er0 g
        have jm1 := JM_X jm (fz_mono x1 (by decide) (by decide))
        have jc1 := JC_fz jc x1 (by decide) (by decide) kz1
        subst er
        refine hR _ h1 ρ' (by omega) (by omega) (M_K jm1.1.1) (fun S hS => t_M_narrow jm1.1 jm1.2.1 hF hN jm1.2.2.1 (fun q => by rw [vz] at q; cases q) (fun h2 t2 p1 p3 x2 sv => ?_))
        have e2 := un t2 p1 p3
        subst e2
        exact hS h2 ⟨f, r, n, gg, fi, A, U, K, s, tm, N, B, e1, e2, bx, b, a', hb, JC_M jc1 (fx_M x2 (by decide) (by decide)), JM_frS jm1 x2 (by decide) (by decide) sv, jp⟩
    · refine ⟨csC r ρ, csS r ρ, by omega, by omega, fun R hR => t_X_narrow jc.1 hX hb1 hb2 kz (fun _ => ⟨Nat.le_refl _, Nat.le_refl _⟩) (fun q => by rw [vz] at q; cases q) (fun h1 ρ' a' t' q1 q3 x1 kz1 _ er1 => ?_)⟩
      have e := un t' q1 q3
      subst e
      have er := er1 g
      have jm1 := JM_X jm (fz_mono x1 (by decide) (by decide))
      have jc1 := JC_fz jc x1 (by decide) (by decide) kz1
      subst er
      refine hR _ h1 _ pot.1 pot.2 (M_K jm1.1.1) (fun S hS => t_M_narrow jm1.1 jm1.2.1 hF hN jm1.2.2.1 (fun q => by rw [vz] at q; cases q) (fun h2 t2 p1 p3 x2 sv => ?_))
      have e2 := un t2 p1 p3
      subst e2
      exact hS h2 ⟨f, r, n, gg, fi, A, U, K, s, tm, N, B, e1, e2, bx, b, a', hb, JC_M jc1 (fx_M x2 (by decide) (by decide)), JM_frS jm1 x2 (by decide) (by decide) sv, jp⟩
