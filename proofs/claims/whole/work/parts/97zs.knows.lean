/-! Class and reference: knowledge, time, images -/
variable {h : Hp}
set_option maxRecDepth 4000 in
theorem JC_kn {f : Nat → Int32} {r n : Nat} {gg : Nat → Nat → Int32} {fi A U : Nat} {K : KT} {s : Nat} {tm : Int32} {N : Nat} {B : Nat → Int32} {e1 e2 : Int32} {bx : Nat → Option (Nat → Int32)} {K' : KT} {s' : Nat} {tm' : Int32} {b ρ a : Nat} {as : List Nat} {h' : Hp} (k : JC f r n gg fi A U K s tm N B e1 e2 bx b ρ a h) (x : Fx as [] h h') (h1 : ∀ y ∈ as, y ∈ [35, 36, 37, 38, 39, 40, 41, 71, 72, 73, 74, 76]) (eK : K'.1 = K.1) (kx : KX K' r n s' h') (et : gI h' 71 7 = tm') : JC f r n gg fi A U K' s' tm' N B e1 e2 bx b ρ a h' := by
  have nA : ∀ y, y ∉ [35, 36, 37, 38, 39, 40, 41, 71, 72, 73, 74, 76] → y ∉ as := fun y hy q => hy (h1 y q)
  obtain ⟨k1, k2, k3, k4, q1, q2, q3, q4, q5, q6, q7, q8, q9⟩ := k
  have hn := k1.2.1.2.2.2.2.2
  refine ⟨CN_fx k1 x (nA _ (by decide)) (nA _ (by decide)), by rw [x.2.2.1]; exact k2, by rw [fx_I x (nA _ (by decide))]; exact k3, KA_fx k4 x (nA _ (by decide)) (nA _ (by decide)) (nA _ (by decide)) (nA _ (by decide)) (by decide) (by decide) (nA _ (by decide)) (nA _ (by decide)) (nA _ (by decide)) (nA _ (by decide)) (nA _ (by decide)) (nA _ (by decide)) (nA _ (by decide)) (nA _ (by decide)) (nA _ (by decide)) (by decide) (by decide) (by decide) (by decide), AR_fx hn q1 x (nA _ (by decide)) (nA _ (by decide)) (nA _ (by decide)) (nA _ (by decide)) (nA _ (by decide)), by rw [eK]; exact CTd_fx q2 x (nA _ (by decide)) (nA _ (by decide)), kx, et, by rw [fx_I x (nA _ (by decide))]; exact q5, by rw [fx_I x (nA _ (by decide))]; exact q6, by rw [fx_I x (nA _ (by decide))]; exact q7, by rw [fx_I x (nA _ (by decide))]; exact q8, fun β hβ => ?_⟩
  match β, hβ with
  | 0, _ => exact BXx_eq (q9 0 (by decide)) (fx_I x (nA _ (by decide))) (fx_I x (nA _ (by decide))) (fx_I x (nA _ (by decide)))
  | 1, _ => exact BXx_eq (q9 1 (by decide)) (fx_I x (nA _ (by decide))) (fx_I x (nA _ (by decide))) (fx_I x (nA _ (by decide)))
theorem JM_kn {f : Nat → Int32} {r n : Nat} {gg : Nat → Nat → Int32} {fi A U : Nat} {K : KT} {s : Nat} {tm : Int32} {N : Nat} {B : Nat → Int32} {e1 e2 : Int32} {bx : Nat → Option (Nat → Int32)} {K' : KT} {s' : Nat} {tm' : Int32} {h' : Hp} (k : JM f r n gg fi A U K s tm N B e1 e2 bx h) (x : Fr [111, 112, 113, 114, 115] [73, 74] [] [] h h') (ks : KS h' s') (ek : kn h' = K') (et : gI h' 81 74 = tm') : JM f r n gg fi A U K' s' tm' N B e1 e2 bx h' := by
  obtain ⟨k1, k2, k3, k4, k5, k6, k7, k8, k9, k10, k11, k12, k13, k14⟩ := k
  refine ⟨fr_Mrc x (by decide) (by decide) (by decide) k1, by rw [fr_I x (x := 86) (by decide) (by decide)]; exact k2, SV_fr k3 x (by decide) (by decide) (by decide) (by decide) (by decide) (by decide) (by decide) (by decide) (by decide) (by decide), by rw [fr_F x (by decide) (by decide)]; exact k4, by rw [fr_F x (by decide) (by decide)]; exact k5, ?_, ks, ek, et, by rw [fr_F x (by decide) (by decide)]; exact k10, by rw [fr_I x (x := 82) (by decide) (by decide)]; exact k11, by rw [fr_F x (by decide) (by decide)]; exact k12, by rw [fr_F x (by decide) (by decide)]; exact k13, fun β hβ => BXm_eq (k14 β hβ) (fr_I x (by decide) (by decide)) (fr_I x (by decide) (by decide))⟩
  unfold PA
  rw [fr_I x (x := 87) (by decide) (by decide)]
  exact k6
theorem seH_fr {s : Nat} {t a b c : Int32} {d : Bool} : Fr [111, 112, 113, 114, 115] [73, 74] [] [] h (seH h s t a b c d) := by
  unfold seH
  exact fr_trans (fr_sI _ _ (Or.inl (by simp))) (fr_trans (fr_sI _ _ (Or.inl (by simp))) (fr_trans (fr_sI _ _ (Or.inl (by simp))) (fr_trans (fr_sI _ _ (Or.inl (by simp))) (fr_trans (fr_sI _ _ (Or.inl (by simp))) (fr_trans (fr_sI _ _ (Or.inl (by simp))) (fr_trans (fr_sI _ _ (Or.inl (by simp))) (fr_sI _ _ (Or.inr ⟨rfl, by simp⟩))))))))
theorem seH_kn {s : Nat} {t a b c : Int32} {d : Bool} : kn (seH h s t a b c d) = kS (kn h) s t a b c d (gI h 81 74) := by
  have n1 : ∀ (h : Hp) (x y k : Nat) (v : Int32) (q : Nat), x ≠ y → gI (sI h x k v) y q = gI h y q := fun h x y k v q e => by rw [gI_sI, if_neg (fun z => e z.1.symm)]
  have u1 : ∀ (h : Hp) (x k : Nat) (v : Int32), gI (sI h x k v) x = up (gI h x) k v := fun h x k v => by
    funext q
    rw [gI_sI]
    unfold up
    by_cases g : q = k
    · rw [if_pos ⟨rfl, g⟩, if_pos g]
    · rw [if_neg (fun z => g z.2), if_neg g]
  have f1 : ∀ (h : Hp) (x y k : Nat) (v : Int32), x ≠ y → gI (sI h x k v) y = gI h y := fun h x y k v e => funext (fun q => n1 h x y k v q e)
  unfold kn kS seH
  rw [f1 _ 81 84 _ _ (by decide), f1 _ 115 84 _ _ (by decide), f1 _ 114 84 _ _ (by decide), f1 _ 113 84 _ _ (by decide), f1 _ 112 84 _ _ (by decide), f1 _ 112 84 _ _ (by decide), f1 _ 112 84 _ _ (by decide), f1 _ 111 84 _ _ (by decide)]
  rw [f1 _ 81 111 _ _ (by decide), f1 _ 115 111 _ _ (by decide), f1 _ 114 111 _ _ (by decide), f1 _ 113 111 _ _ (by decide), f1 _ 112 111 _ _ (by decide), f1 _ 112 111 _ _ (by decide), f1 _ 112 111 _ _ (by decide), u1 _ 111]
  rw [f1 _ 81 112 _ _ (by decide), f1 _ 115 112 _ _ (by decide), f1 _ 114 112 _ _ (by decide), f1 _ 113 112 _ _ (by decide), u1 _ 112, u1 _ 112, u1 _ 112, f1 _ 111 112 _ _ (by decide)]
  rw [f1 _ 81 113 _ _ (by decide), f1 _ 115 113 _ _ (by decide), f1 _ 114 113 _ _ (by decide), u1 _ 113, f1 _ 112 113 _ _ (by decide), f1 _ 112 113 _ _ (by decide), f1 _ 112 113 _ _ (by decide), f1 _ 111 113 _ _ (by decide)]
  rw [f1 _ 81 114 _ _ (by decide), f1 _ 115 114 _ _ (by decide), u1 _ 114, f1 _ 113 114 _ _ (by decide), f1 _ 112 114 _ _ (by decide), f1 _ 112 114 _ _ (by decide), f1 _ 112 114 _ _ (by decide), f1 _ 111 114 _ _ (by decide)]
  rw [f1 _ 81 115 _ _ (by decide), u1 _ 115, f1 _ 114 115 _ _ (by decide), f1 _ 113 115 _ _ (by decide), f1 _ 112 115 _ _ (by decide), f1 _ 112 115 _ _ (by decide), f1 _ 112 115 _ _ (by decide), f1 _ 111 115 _ _ (by decide)]
  rfl
theorem c_seen {c ρ : Nat} {t x y z : Int32} {d : Bool} {R : Int32 → Hp → Prop} (hc : c < 2 ^ 30) (j : JJ c ρ h) (hR : ∀ q h1, gK h1 81 = 12 → (∀ S : Int32 → Hp → Prop, (∀ h2, JJ (c + 8) ρ h2 → S q h2) → w_M_seen 81 t x y z (b2i d) h1 S) → R q h1) : w_X_seen 16 t x y z (b2i d) h R := by
  obtain ⟨f, r, n, gg, fi, A, U, K, s, tm, N, B, e1, e2, bx, b, a, hb, jc, jm, jp⟩ := j
  obtain ⟨ja, jt, jk, jtm, jrest⟩ := jc.2.2.2.2
  have kS0 := jm.2.2.2.2.2.2.1
  refine t_X_seen jt jk (fun iv h1 x1 => ?_) (fun vz h1 x1 e7 kx1 => ?_)
  · have jm1 := JM_X jm (fz_C x1 (by decide) (by decide))
    have jc1 := JC_fx jc x1 (by decide) (KA_dn jc.2.2.2.1 x1 (by decide) rfl)
    refine hR _ h1 (M_K jm1.1.1) (fun S hS => t_M_seen jm1.1.1 jm1.2.2.2.2.2.2.1.1 jm1.2.2.2.2.2.2.1.2.1 (fun _ => hS h1 ⟨f, r, n, gg, fi, A, U, K, s, tm, N, B, e1, e2, bx, b, a, by omega, jc1, jm1, jp⟩) (fun vz => ?_))
    rw [iv] at vz
    cases vz
  · have jm1 := JM_X jm (fz_C x1 (by decide) (by decide))
    rw [jtm] at kx1
    have jc1 := JC_kn (K' := kS K s t x y z d tm) (s' := s + 1) (tm' := tm) jc x1 (by decide) rfl kx1 (e7.trans jtm)
    refine hR _ h1 (M_K jm1.1.1) (fun S hS => t_M_seen jm1.1.1 jm1.2.2.2.2.2.2.1.1 jm1.2.2.2.2.2.2.1.2.1 (fun iv => ?_) (fun _ => ?_))
    · rw [vz] at iv
      cases iv
    · have tm1 : gI h1 81 74 = tm := jm1.2.2.2.2.2.2.2.2.1
      have kn1 : kn h1 = K := jm1.2.2.2.2.2.2.2.1
      have ks1 := jm1.2.2.2.2.2.2.1
      have vz0 := vz
      rw [Bool.and_eq_true] at vz0
      simp only [Bool.and_eq_true] at vz
      have s20 : s ≠ 20 := of_decide_eq_true vz.2.2.2.2
      have s20' := ks1.2.1
      obtain ⟨t', ht', et'⟩ := in_nI (k := 8) (v := t) (M := 8) rfl (by rw [vz0.1]; decide)
      have ek : kn (seH h1 s t x y z d) = kS K s t x y z d tm := by rw [seH_kn, kn1, tm1]
      have e111 : gI (seH h1 s t x y z d) 111 = up (gI h1 111) s t := by
        have e := congrArg (fun K : KT => K.2.1) ek
        have e0 := congrArg (fun K : KT => K.2.1) kn1
        have e0' : gI h1 111 = K.2.1 := e0
        rw [e0']
        exact e
      refine hS _ ⟨f, r, n, gg, fi, A, U, kS K s t x y z d tm, s + 1, tm, N, B, e1, e2, bx, b, a, by omega, JC_M jc1 (fx_M seH_fr (by decide) (by decide)), JM_kn jm1 seH_fr ⟨?_, by omega, fun q hq => ?_⟩ ek ?_, jp⟩
      · unfold seH
        rw [gI_sI, if_pos ⟨rfl, rfl⟩]
      · rw [e111]
        by_cases g : q = s
        · exact ⟨t', ht', by rw [g, up_at]; exact et'⟩
        · rw [up_ne g]
          exact ks1.2.2 q (by omega)
      · rw [show gI (seH h1 s t x y z d) 81 74 = gI h1 81 74 from by
          unfold seH
          rw [gI_sI, if_neg (by decide), gI_sI, if_neg (fun q => absurd q.1 (by decide)), gI_sI, if_neg (fun q => absurd q.1 (by decide)), gI_sI, if_neg (fun q => absurd q.1 (by decide)), gI_sI, if_neg (fun q => absurd q.1 (by decide)), gI_sI, if_neg (fun q => absurd q.1 (by decide)), gI_sI, if_neg (fun q => absurd q.1 (by decide)), gI_sI, if_neg (fun q => absurd q.1 (by decide))]]
        exact tm1
theorem c_untell {c ρ : Nat} {x : Int32} {R : Bool → Hp → Prop} (hc : c < 2 ^ 30) (j : JJ c ρ h) (hR : ∀ q h1, gK h1 81 = 12 → (∀ S : Bool → Hp → Prop, (∀ h2, JJ (c + 8) ρ h2 → S q h2) → w_M_untell 81 x h1 S) → R q h1) : w_X_untell 16 x h R := by
  obtain ⟨f, r, n, gg, fi, A, U, K, s, tm, N, B, e1, e2, bx, b, a, hb, jc, jm, jp⟩ := j
  have hA := jA jc
  have hb1 := jc.2.2.1
  have ar := jc.2.2.2.2.1
  have hn8 := jc.1.2.1.2.2.2.2.2
  have hr3 := jc.1.2.1.2.2.2.2.1
  have mA := jm.2.2.2.1
  obtain ⟨ja, jt, jk, jtm, jrest⟩ := jc.2.2.2.2
  have kS0 := jm.2.2.2.2.2.2.1
  have kn0 : kn h = K := jm.2.2.2.2.2.2.2.1
  have e115 : gI h 115 = K.2.2.2.2.2 := congrArg (fun K : KT => K.2.2.2.2.2) kn0
  have s20 := kS0.2.1
  have un : ∀ i i', i < s → i' < s → x = nI i → x = nI i' → i' = i := fun i i' h1 h2 q1 q2 => by
    rw [q1] at q2
    exact ((nI_eq (by omega) (by omega)).mp q2).symm
  refine t_X_untell jc.1.1 jk (fun iv => hR _ h (M_K jm.1.1) (fun S hS => t_M_untell jm.1.1 kS0.1 s20 (fun _ => hS h ⟨f, r, n, gg, fi, A, U, K, s, tm, N, B, e1, e2, bx, b, a, by omega, jc, jm, jp⟩) (fun i hi ei => ?_))) (fun i hi ei => ⟨fun eq => ?_, fun ne => hR _ h (M_K jm.1.1) (fun S hS => t_M_untell jm.1.1 kS0.1 s20 (fun iv => ?_) (fun i' hi' ei' => ?_))⟩)
  · rw [ei, inb_nI (by omega) hi] at iv
    cases iv
  · rw [jtm]
    have x1 : Fx [74] [] h (sI h 74 i tm) := fx_sI _ _ (by simp)
    have e74 : ∀ q, gI (sI h 74 i tm) 74 q = up (gI h 74) i tm q := fun q => by
      rw [gI_sI]
      unfold up
      by_cases g : q = i
      · rw [if_pos ⟨rfl, g⟩, if_pos g]
      · rw [if_neg (fun z => g z.2), if_neg g]
    have kx1 : KX (K.1, K.2.1, K.2.2.1, K.2.2.2.1, K.2.2.2.2.1, up K.2.2.2.2.2 i tm) r n s (sI h 74 i tm) := by
      refine ⟨by rw [fx_I x1 (by decide)]; exact jk.1, jk.2.1, fun q hq => ?_⟩
      obtain ⟨k1, k2, k3⟩ := jk.2.2 q hq
      refine ⟨by rw [fx_I x1 (x := 73) (by decide)]; exact k1, ?_, by rw [fx_I x1 (x := 72) (by decide)]; exact k3⟩
      rw [e74]
      show up (gI h 74) i tm q = up K.2.2.2.2.2 i tm q
      by_cases g : q = i
      · rw [g, up_at, up_at]
      · rw [up_ne g, up_ne g]; exact k2
    have jc1 := JC_kn (K' := (K.1, K.2.1, K.2.2.1, K.2.2.2.1, K.2.2.2.2.1, up K.2.2.2.2.2 i tm)) (s' := s) (tm' := tm) jc x1 (by decide) rfl kx1 (by rw [fx_I x1 (by decide)]; exact jtm)
    have jm1 := JM_X jm (fz_C x1 (by decide) (by decide))
    have e1151 : gI (sI h 74 i tm) 115 = K.2.2.2.2.2 := by rw [fx_I x1 (by decide)]; exact e115
    refine hR _ _ (M_K jm1.1.1) (fun S hS => t_M_untell jm1.1.1 jm1.2.2.2.2.2.2.1.1 s20 (fun iv => ?_) (fun i' hi' ei' => ?_))
    · rw [ei, inb_nI (by omega) hi] at iv
      cases iv
    · have e := un i i' hi hi' ei ei'
      subst e
      refine ⟨fun _ => ?_, fun q => absurd (by rw [e1151]; exact eq) q⟩
      have tm1 : gI (sI h 74 i' tm) 81 74 = tm := jm1.2.2.2.2.2.2.2.2.1
      rw [tm1]
      have x2 : Fr [111, 112, 113, 114, 115] [73, 74] [] [] (sI h 74 i' tm) (sI (sI h 74 i' tm) 115 i' tm) := fr_sI _ _ (Or.inl (by simp))
      refine hS _ ⟨f, r, n, gg, fi, A, U, (K.1, K.2.1, K.2.2.1, K.2.2.2.1, K.2.2.2.2.1, up K.2.2.2.2.2 i' tm), s, tm, N, B, e1, e2, bx, b, a, by omega, JC_M jc1 (fx_M x2 (by decide) (by decide)), JM_kn jm1 x2 ?_ ?_ ?_, jp⟩
      · refine ⟨by rw [gI_sI, if_neg (fun z => absurd z.1 (by decide))]; exact jm1.2.2.2.2.2.2.1.1, s20, fun q hq => ?_⟩
        rw [gI_sI, if_neg (fun z => absurd z.1 (by decide))]
        exact jm1.2.2.2.2.2.2.1.2.2 q hq
      · have kn1 : kn (sI h 74 i' tm) = K := jm1.2.2.2.2.2.2.2.1
        have u115 : gI (sI (sI h 74 i' tm) 115 i' tm) 115 = up K.2.2.2.2.2 i' tm := by
          funext q
          rw [gI_sI, e1151]
          unfold up
          by_cases g : q = i'
          · rw [if_pos ⟨rfl, g⟩, if_pos g]
          · rw [if_neg (fun z => g z.2), if_neg g]
        have f1 : ∀ y, y ≠ 115 → gI (sI (sI h 74 i' tm) 115 i' tm) y = gI (sI h 74 i' tm) y := fun y hy => funext (fun q => by rw [gI_sI, if_neg (fun z => hy z.1)])
        unfold kn at kn1 ⊢
        rw [u115, f1 84 (by decide), f1 111 (by decide), f1 112 (by decide), f1 113 (by decide), f1 114 (by decide)]
        rw [← kn1]
      · rw [gI_sI, if_neg (fun z => absurd z.1 (by decide))]
        exact tm1
  · rw [ei, inb_nI (by omega) hi] at iv
    cases iv
  · have e := un i i' hi hi' ei ei'
    subst e
    exact ⟨fun q => absurd (by rw [← e115]; exact q) ne, fun _ => hS h ⟨f, r, n, gg, fi, A, U, K, s, tm, N, B, e1, e2, bx, b, a, by omega, jc, jm, jp⟩⟩
theorem c_later {c ρ : Nat} {x : Int32} {R : Int32 → Hp → Prop} (hc : c < 2 ^ 30) (j : JJ c ρ h) (hR : ∀ q h1, gK h1 81 = 12 → (∀ S : Int32 → Hp → Prop, (∀ h2, JJ (c + 8) ρ h2 → S q h2) → w_M_later 81 x h1 S) → R q h1) : w_X_later 16 x h R := by
  obtain ⟨f, r, n, gg, fi, A, U, K, s, tm, N, B, e1, e2, bx, b, a, hb, jc, jm, jp⟩ := j
  have hA := jA jc
  have hb1 := jc.2.2.1
  have ar := jc.2.2.2.2.1
  have hn8 := jc.1.2.1.2.2.2.2.2
  have hr3 := jc.1.2.1.2.2.2.2.1
  have mA := jm.2.2.2.1
  obtain ⟨ja, jt, jk, jtm, jrest⟩ := jc.2.2.2.2
  have tm0 : gI h 81 74 = tm := jm.2.2.2.2.2.2.2.2.1
  refine t_X_later jc.1.1 (fun iv => hR _ h (M_K jm.1.1) (fun S hS => t_M_later jm.1.1 (fun _ => hS h ⟨f, r, n, gg, fi, A, U, K, s, tm, N, B, e1, e2, bx, b, a, by omega, jc, jm, jp⟩) (fun vz => ?_))) (fun vz => ⟨fun le => ?_, fun nle => hR _ h (M_K jm.1.1) (fun S hS => t_M_later jm.1.1 (fun iv => ?_) (fun _ => ⟨fun q => ?_, fun _ => hS h ⟨f, r, n, gg, fi, A, U, K, s, tm, N, B, e1, e2, bx, b, a, by omega, jc, jm, jp⟩⟩))⟩)
  · rw [iv] at vz
    cases vz
  · rw [jtm] at le ⊢
    have x1 : Fx [71] [] h (sI h 71 7 (tm + x)) := fx_sI _ _ (by simp)
    have kx1 : KX K r n s (sI h 71 7 (tm + x)) := by
      unfold KX
      rw [gI_sI, if_neg (by decide), fx_I x1 (x := 72) (by decide), fx_I x1 (x := 73) (by decide), fx_I x1 (x := 74) (by decide)]
      exact jk
    have jc1 := JC_kn (K' := K) (s' := s) (tm' := tm + x) jc x1 (by decide) rfl kx1 (by rw [gI_sI, if_pos ⟨rfl, rfl⟩])
    have jm1 := JM_X jm (fz_C x1 (by decide) (by decide))
    have tm1 : gI (sI h 71 7 (tm + x)) 81 74 = tm := jm1.2.2.2.2.2.2.2.2.1
    refine hR _ _ (M_K jm1.1.1) (fun S hS => t_M_later jm1.1.1 (fun iv => ?_) (fun _ => ?_))
    · rw [vz] at iv
      cases iv
    · rw [tm1]
      refine ⟨fun _ => ?_, fun q => absurd le q⟩
      have x2 : Fr [111, 112, 113, 114, 115] [73, 74] [] [] (sI h 71 7 (tm + x)) (sI (sI h 71 7 (tm + x)) 81 74 (tm + x)) := fr_sI _ _ (Or.inr ⟨rfl, by simp⟩)
      have x2' : Fr [] [74] [] [] (sI h 71 7 (tm + x)) (sI (sI h 71 7 (tm + x)) 81 74 (tm + x)) := fr_sI _ _ (Or.inr ⟨rfl, by simp⟩)
      exact hS _ ⟨f, r, n, gg, fi, A, U, K, s, tm + x, N, B, e1, e2, bx, b, a, by omega, JC_M jc1 (fx_M x2 (by decide) (by decide)), JM_kn jm1 x2 (KS_fr x2' (by decide) (by decide) (by decide) jm1.2.2.2.2.2.2.1) (by rw [kn_fr x2' (by decide) (by decide) (by decide) (by decide) (by decide) (by decide)]; exact jm1.2.2.2.2.2.2.2.1) (by rw [gI_sI, if_pos ⟨rfl, rfl⟩]), jp⟩
  · rw [vz] at iv
    cases iv
  · rw [tm0] at q
    rw [jtm] at nle
    exact absurd q nle
theorem c_image {c ρ : Nat} {x : Int32} {R : Int32 → Hp → Prop} (hc : c < 2 ^ 30) (j : JJ c ρ h) (hR : ∀ q h1, gK h1 81 = 12 → (∀ S : Int32 → Hp → Prop, (∀ h2, JJ (c + 8) ρ h2 → S q h2) → w_M_image 81 x h1 S) → R q h1) : w_X_image 16 x h R := by
  obtain ⟨f, r, n, gg, fi, A, U, K, s, tm, N, B, e1, e2, bx, b, a, hb, jc, jm, jp⟩ := j
  have hA := jA jc
  have hb1 := jc.2.2.1
  have ar := jc.2.2.2.2.1
  have hn8 := jc.1.2.1.2.2.2.2.2
  have hr3 := jc.1.2.1.2.2.2.2.1
  have mA := jm.2.2.2.1
  have un : ∀ i i', i ≤ 1 → i' ≤ 1 → x = nI i → x = nI i' → i' = i := fun i i' h1 h2 q1 q2 => by
    rw [q1] at q2
    exact ((nI_eq (by omega) (by omega)).mp q2).symm
  refine t_X_image jc.1 (fun iv => hR _ h (M_K jm.1.1) (fun S hS => t_M_image jm.1.1 jm.1.2.2.1 (fun _ => hS h ⟨f, r, n, gg, fi, A, U, K, s, tm, N, B, e1, e2, bx, b, a, by omega, jc, jm, jp⟩) (fun h2 i hi ei _ _ _ => ?_))) (fun h1 i hi ei x1 e29 e78 e771 e772 => ?_)
  · rw [ei, in_ok (m := 1) (M := 1) rfl (by decide) hi] at iv
    cases iv
  · have xx : Fx [29, 77, 78, 79, 80] [] h h1 := fx_mono x1 (by
      intro y hy
      simp at hy
      simp
      omega) (by simp)
    have jm1 := JM_X jm (fz_C xx (by decide) (by decide))
    refine hR _ h1 (M_K jm1.1.1) (fun S hS => t_M_image jm1.1.1 jm1.1.2.2.1 (fun iv => ?_) (fun h2 i' hi' ei' x2 m119 m118 => ?_))
    · rw [ei, in_ok (m := 1) (M := 1) rfl (by decide) hi] at iv
      cases iv
    · have e := un i i' hi hi' ei ei'
      subst e
      have jc1 : JC f r n gg fi A U K s tm N B e1 e2 (fun β => if β = i' then some f else bx β) b ρ a h1 := by
        obtain ⟨k1, k2, k3, k4, q1, q2, q3, q4, q5, q6, q7, q8, q9⟩ := jc
        refine ⟨CN_fx k1 xx (by decide) (by decide), by rw [xx.2.2.1]; exact k2, by rw [fx_I xx (by decide)]; exact k3, KA_fx k4 xx (by decide) (by decide) (by decide) (by decide) (by decide) (by decide) (by decide) (by decide) (by decide) (by decide) (by decide) (by decide) (by decide) (by decide) (by decide) (by decide) (by decide) (by decide) (by decide), AR_fx hn8 q1 xx (by decide) (by decide) (by decide) (by decide) (by decide), CTd_fx q2 xx (by decide) (by decide), KX_fx q3 xx (by decide) (by decide) (by decide) (by decide), by rw [fx_I xx (by decide)]; exact q4, by rw [fx_I xx (by decide)]; exact q5, by rw [fx_I xx (by decide)]; exact q6, by rw [fx_I xx (by decide)]; exact q7, by rw [fx_I xx (by decide)]; exact q8, fun β hβ => ?_⟩
        show BXx r n (if β = i' then some f else bx β) β h1
        by_cases g : β = i'
        · rw [if_pos g, g]
          exact ⟨by rw [e29, if_pos rfl], e771, e772, e78⟩
        · rw [if_neg g]
          have b9 := q9 β hβ
          unfold BXx at b9 ⊢
          rw [e29 β, if_neg g, fx_I x1 (x := 77 + 2 * β) (by simp; omega), fx_I x1 (x := 78 + 2 * β) (by simp; omega)]
          exact b9
      have jm2 : JM f r n gg fi A U K s tm N B e1 e2 (fun β => if β = i' then some f else bx β) h2 := by
        obtain ⟨k1, k2, k3, k4, k5, k6, k7, k8, k9, k10, k11, k12, k13, k14⟩ := jm1
        refine ⟨fr_Mrc x2 (by decide) (by decide) (by decide) k1, by rw [fr_I x2 (x := 86) (by decide) (by decide)]; exact k2, SV_fr k3 x2 (by decide) (by decide) (by decide) (by decide) (by decide) (by decide) (by decide) (by decide) (by decide) (by decide), by rw [fr_F x2 (by decide) (by decide)]; exact k4, by rw [fr_F x2 (by decide) (by decide)]; exact k5, ?_, KS_fr x2 (by decide) (by decide) (by decide) k7, by rw [kn_fr x2 (by decide) (by decide) (by decide) (by decide) (by decide) (by decide)]; exact k8, by rw [fr_F x2 (by decide) (by decide)]; exact k9, by rw [fr_F x2 (by decide) (by decide)]; exact k10, by rw [fr_I x2 (x := 82) (by decide) (by decide)]; exact k11, by rw [fr_F x2 (by decide) (by decide)]; exact k12, by rw [fr_F x2 (by decide) (by decide)]; exact k13, fun β hβ => ?_⟩
        · unfold PA
          rw [fr_I x2 (x := 87) (by decide) (by decide)]
          exact k6
        · show BXm (if β = i' then some f else bx β) β h2
          by_cases g : β = i'
          · rw [if_pos g, g]
            refine ⟨by rw [m119, if_pos rfl], fun q hq => ?_⟩
            rw [m118, if_pos (by omega), k2, show 44 * i' + q - 44 * i' = q from by omega]
          · rw [if_neg g]
            have b9 := k14 β hβ
            unfold BXm at b9 ⊢
            rw [m119 β, if_neg g]
            cases ob : bx β with
            | none =>
              rw [ob] at b9
              exact b9
            | some c =>
              rw [ob] at b9
              refine ⟨b9.1, fun q hq => ?_⟩
              rw [m118, if_neg (by omega)]
              exact b9.2 q hq
      refine hS h2 ⟨f, r, n, gg, fi, A, U, K, s, tm, N, B, e1, e2, _, b, a, by omega, JC_M jc1 (fx_M x2 (by decide) (by decide)), jm2, ⟨jp.1, jp.2.1, jp.2.2.1, fun β c hc => ?_, jp.2.2.2.2⟩⟩
      replace hc : (if β = i' then some f else bx β) = some c := hc
      by_cases g : β = i'
      · rw [if_pos g] at hc
        injection hc with hc
        rw [← hc]
        exact jp.1
      · rw [if_neg g] at hc
        exact jp.2.2.2.1 β c hc
theorem c_back {c ρ : Nat} {x : Int32} {R : Int32 → Hp → Prop} (hc : c < 2 ^ 30) (j : JJ c ρ h) (hR : ∀ q h1, gK h1 81 = 12 → (∀ S : Int32 → Hp → Prop, (∀ h2, JJ (c + 8) ρ h2 → S q h2) → w_M_back 81 x h1 S) → R q h1) : w_X_back 16 x h R := by
  obtain ⟨f, r, n, gg, fi, A, U, K, s, tm, N, B, e1, e2, bx, b, a, hb, jc, jm, jp⟩ := j
  have hA := jA jc
  have hb1 := jc.2.2.1
  have ar := jc.2.2.2.2.1
  have hn8 := jc.1.2.1.2.2.2.2.2
  have hr3 := jc.1.2.1.2.2.2.2.1
  have mA := jm.2.2.2.1
  have un : ∀ i i', i ≤ 1 → i' ≤ 1 → x = nI i → x = nI i' → i' = i := fun i i' h1 h2 q1 q2 => by
    rw [q1] at q2
    exact ((nI_eq (by omega) (by omega)).mp q2).symm
  have bxx := jc.2.2.2.2.2.2.2.2.2.2.2.2
  have bxm := jm.2.2.2.2.2.2.2.2.2.2.2.2.2
  have same : ∀ i, i ≤ 1 → (gI h 29 i = 0 ↔ gI h 119 i = 0) := fun i hi => by
    have q1 := bxx i hi
    have q2 := bxm i hi
    unfold BXx at q1
    unfold BXm at q2
    cases ob : bx i with
    | none => rw [ob] at q1 q2; rw [q1, q2]
    | some c => rw [ob] at q1 q2; rw [q1.1, q2.1]
  refine t_X_back jc.1.1 (fun iv => hR _ h (M_K jm.1.1) (fun S hS => t_M_back2 jm.1.1 jm.1.2.2.1 (fun _ => hS h ⟨f, r, n, gg, fi, A, U, K, s, tm, N, B, e1, e2, bx, b, a, by omega, jc, jm, jp⟩) (fun i hi ei _ => hS h ⟨f, r, n, gg, fi, A, U, K, s, tm, N, B, e1, e2, bx, b, a, by omega, jc, jm, jp⟩) (fun h2 i hi ei _ _ _ _ _ _ _ => ?_))) (fun i hi ei z => hR _ h (M_K jm.1.1) (fun S hS => t_M_back2 jm.1.1 jm.1.2.2.1 (fun _ => hS h ⟨f, r, n, gg, fi, A, U, K, s, tm, N, B, e1, e2, bx, b, a, by omega, jc, jm, jp⟩) (fun i' hi' ei' _ => hS h ⟨f, r, n, gg, fi, A, U, K, s, tm, N, B, e1, e2, bx, b, a, by omega, jc, jm, jp⟩) (fun h2 i' hi' ei' nz _ _ _ _ _ _ => ?_))) (fun h0 h1 i hi ei nz cp x1 a4 a5 a6 => ?_)
  · rw [ei, in_ok (m := 1) (M := 1) rfl (by decide) hi] at iv
    cases iv
  · have e := un i i' hi hi' ei ei'
    rw [e] at nz
    exact absurd ((same i hi).mp z) nz
  · have q1 := bxx i hi
    have q2 := bxm i hi
    unfold BXx at q1
    unfold BXm at q2
    cases ob : bx i with
    | none =>
      rw [ob] at q1
      exact absurd q1 nz
    | some cc =>
      rw [ob] at q1 q2
      obtain ⟨p1, p2, p3, p4⟩ := q1
      have oc : OF r n cc := jp.2.2.2.1 i cc ob
      have x01 : Fx [21, 22, 30] [] h h1 := fx_trans (fx_mono cp.1 (by simp) (by simp)) (fx_mono x1 (by simp) (by simp))
      have jm1 := JM_X jm (fz_C x01 (by decide) (by decide))
      have e22 : gI h1 22 = cc := by
        rw [fx_I x1 (by decide), show gI h0 22 = cp44 (gI h (77 + 2 * i + 1)) (gI h 22) from cp.2.1]
        funext q
        unfold cp44
        by_cases g : q < 44
        · rw [if_pos g, show 77 + 2 * i + 1 = 78 + 2 * i from by omega]; exact p4 q g
        · rw [if_neg g, jc.1.2.2.1, jp.1.2.2.2.2.2.2 q (by omega), oc.2.2.2.2.2.2 q (by omega)]
      have e3 : gI h1 21 3 = nI (b + 1) := by rw [fx_I x1 (by decide), cp.2.2.2.2, hb1, nI_1]
      have jc1 : JC cc r n (fun _ => cc) 0 0 0 K s tm N B e1 e2 bx (b + 1) ρ a h1 := by
        obtain ⟨k1, k2, k3, k4, q1, q2, q3, q4, q5, q6, q7, q8, q9⟩ := jc
        obtain ⟨c1, c2, c3, c4, c5, c6, c7, c8⟩ := k1
        refine ⟨⟨fx_XS x01 c1, ⟨fx_CO x01 (by decide) c2.1, by rw [fx_I x1 (by decide), cp.2.2.1]; exact p2, by rw [fx_I x1 (by decide), cp.2.2.2.1]; exact p3, c2.2.2.2⟩, e22, oc.1, oc.2.1, oc.2.2.1, oc.2.2.2.1, by rw [x01.2.2.1]; exact c8⟩, by rw [x01.2.2.1]; exact k2, e3, KA_up (KA_fx k4 x01 (by decide) (by decide) (by decide) (by decide) (by decide) (by decide) (by decide) (by decide) (by decide) (by decide) (by decide) (by decide) (by decide) (by decide) (by decide) (by decide) (by decide) (by decide) (by decide)) (Nat.lt_succ_self _) oc.2.2.2.2.2.1, ⟨a4, by decide, a5, a6, by decide, fun k hk => absurd hk (by omega)⟩, CTd_fx q2 x01 (by decide) (by decide), KX_fx q3 x01 (by decide) (by decide) (by decide) (by decide), by rw [fx_I x01 (by decide)]; exact q4, by rw [fx_I x01 (by decide)]; exact q5, by rw [fx_I x01 (by decide)]; exact q6, by rw [fx_I x01 (by decide)]; exact q7, by rw [fx_I x01 (by decide)]; exact q8, fun β hβ => ?_⟩
        match β, hβ with
        | 0, _ => exact BXx_eq (q9 0 (by decide)) (fx_I x01 (by decide)) (fx_I x01 (by decide)) (fx_I x01 (by decide))
        | 1, _ => exact BXx_eq (q9 1 (by decide)) (fx_I x01 (by decide)) (fx_I x01 (by decide)) (fx_I x01 (by decide))
      have m119 : ¬ gI h1 119 i = 0 := by
        rw [fx_I x01 (by decide), q2.1]
        decide
      rw [p3]
      refine hR _ h1 (M_K jm1.1.1) (fun S hS => t_M_back2 jm1.1.1 jm1.1.2.2.1 (fun iv => ?_) (fun i' hi' ei' z => ?_) (fun h2 i' hi' ei' _ x2 g24 g25 g41 g86 gg86 => ?_))
      · rw [ei, in_ok (m := 1) (M := 1) rfl (by decide) hi] at iv
        cases iv
      · rw [un i i' hi hi' ei ei'] at z
        exact absurd z m119
      · have e := un i i' hi hi' ei ei'
        have e86 : gI h2 86 = cc := by
          funext q
          by_cases g : q < 44
          · rw [g86 q g, e, fx_I x01 (x := 118) (by decide)]; exact q2.2 q g
          · rw [gg86 q (by omega), jm1.2.1, jp.1.2.2.2.2.2.2 q (by omega), oc.2.2.2.2.2.2 q (by omega)]
        exact hS h2 ⟨cc, r, n, fun _ => cc, 0, 0, 0, K, s, tm, N, B, e1, e2, bx, b + 1, a, by omega, JC_M jc1 (fx_M x2 (by decide) (by decide)), JM_ch jm1 (fr_mono x2 (by simp) (by simp) (by simp) (by simp)) e86 g24 g25 g41 (fun q j hq => absurd hq (by omega)), ⟨oc, rfl, fun _ _ => oc, jp.2.2.2⟩⟩
