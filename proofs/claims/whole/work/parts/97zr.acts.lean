/-! Class and reference: acts -/
variable {h : Hp}
theorem up_ne {f : Nat → Int32} {s x : Nat} {v : Int32} (e : x ≠ s) : up f s v x = f x := if_neg e
theorem up_at {f : Nat → Int32} {s : Nat} {v : Int32} : up f s v s = v := if_pos rfl
theorem dec_rg {v lo hi : Int32} (z : (decide (lo ≤ v) && decide (v ≤ hi)) = true) : lo.toInt ≤ v.toInt ∧ v.toInt ≤ hi.toInt := by
  rw [Bool.and_eq_true, decide_eq_true_eq, decide_eq_true_eq, Int32.le_iff_toInt_le, Int32.le_iff_toInt_le] at z
  exact z
theorem OF_up {r n s : Nat} {f : Nat → Int32} {v : Int32} (hn : n ≤ 8) (o : OF r n f) (hs : s < 44) (h1 : s < 24 → -5 ≤ v.toInt ∧ v.toInt ≤ 5 ∧ s % 3 < r) (h2 : 24 ≤ s → s < 32 → -99 ≤ v.toInt ∧ v.toInt ≤ 99) (h3 : 32 ≤ s → s < 35 → -20 ≤ v.toInt ∧ v.toInt ≤ 20 ∧ s - 32 < r) (h4 : s = 35 → ∃ st, st ≤ 12 ∧ v = nI st) (h5 : 36 ≤ s → 0 ≤ v.toInt ∧ v.toInt ≤ 99) : OF r n (up f s v) := by
  obtain ⟨o1, o2, o3, o4, o5, o6, o7⟩ := o
  refine ⟨fun c j hc hj => ?_, fun j hj => ?_, fun c hc => ?_, fun j hr hj => ⟨?_, fun c hc => ?_⟩, fun c hc => ?_, ?_, fun j hj => ?_⟩
  · by_cases g : 3 * c + j = s
    · rw [g, up_at]
      have := h1 (by omega)
      exact ⟨this.1, this.2.1⟩
    · rw [up_ne g]; exact o1 c j hc hj
  · by_cases g : 32 + j = s
    · rw [g, up_at]
      have := h3 (by omega) (by omega)
      exact ⟨this.1, this.2.1⟩
    · rw [up_ne g]; exact o2 j hj
  · by_cases g : 24 + c = s
    · rw [g, up_at]; exact h2 (by omega) (by omega)
    · rw [up_ne g]; exact o3 c hc
  · rw [up_ne (fun g => by have := (h3 (by omega) (by omega)).2.2; omega)]
    exact (o4 j hr hj).1
  · rw [up_ne (fun g => by have := (h1 (by omega)).2.2; omega)]
    exact (o4 j hr hj).2 c hc
  · by_cases g : 36 + c = s
    · rw [g, up_at]; exact h5 (by omega)
    · rw [up_ne g]; exact o5 c hc
  · by_cases g : 35 = s
    · rw [← g, up_at]; exact h4 g.symm
    · rw [up_ne g]; exact o6
  · rw [up_ne (by omega)]; exact o7 j hj
set_option maxRecDepth 4000 in
theorem JC_TH {f : Nat → Int32} {r n : Nat} {gg : Nat → Nat → Int32} {fi A U : Nat} {K : KT} {s : Nat} {tm : Int32} {N : Nat} {B : Nat → Int32} {e1 e2 : Int32} {bx : Nat → Option (Nat → Int32)} {f' : Nat → Int32} {gg' : Nat → Nat → Int32} {fi' A' U' b ρ a : Nat} {h' : Hp} (k : JC f r n gg fi A U K s tm N B e1 e2 bx b ρ a h) (th : TH f' gg' n fi' A' U' b h h') (o : OF r n f') : ∃ b', b < b' ∧ b' ≤ b + 8 ∧ JC f' r n gg' fi' A' U' K s tm N B e1 e2 bx b' ρ a h' := by
  obtain ⟨x, e22, ⟨b', hb1, hb2, e3⟩, e21, ar⟩ := th
  obtain ⟨k1, k2, k3, k4, q1, q2, q3, q4, q5, q6, q7, q8, q9⟩ := k
  obtain ⟨c1, c2, c3, c4, c5, c6, c7, c8⟩ := k1
  have hn := c2.2.2.2.2.2
  refine ⟨b', hb1, hb2, ⟨fx_XS x c1, ⟨fx_CO x (by decide) c2.1, by rw [e21 1 (by decide)]; exact c2.2.1, by rw [e21 2 (by decide)]; exact c2.2.2.1, c2.2.2.2⟩, e22, o.1, o.2.1, o.2.2.1, o.2.2.2.1, by rw [x.2.2.1]; exact c8⟩, by rw [x.2.2.1]; exact k2, e3, KA_up (KA_fx k4 x (by decide) (by decide) (by decide) (by decide) (by decide) (by decide) (by decide) (by decide) (by decide) (by decide) (by decide) (by decide) (by decide) (by decide) (by decide) (by decide) (by decide) (by decide) (by decide)) hb1 o.2.2.2.2.2.1, ar, CTd_fx q2 x (by decide) (by decide), KX_fx q3 x (by decide) (by decide) (by decide) (by decide), by rw [fx_I x (by decide)]; exact q4, by rw [fx_I x (by decide)]; exact q5, by rw [fx_I x (by decide)]; exact q6, by rw [fx_I x (by decide)]; exact q7, by rw [fx_I x (by decide)]; exact q8, fun β hβ => ?_⟩
  match β, hβ with
  | 0, _ => exact BXx_eq (q9 0 (by decide)) (fx_I x (by decide)) (fx_I x (by decide)) (fx_I x (by decide))
  | 1, _ => exact BXx_eq (q9 1 (by decide)) (fx_I x (by decide)) (fx_I x (by decide)) (fx_I x (by decide))
theorem JM_ch {f : Nat → Int32} {r n : Nat} {gg : Nat → Nat → Int32} {fi A U : Nat} {K : KT} {s : Nat} {tm : Int32} {N : Nat} {B : Nat → Int32} {e1 e2 : Int32} {bx : Nat → Option (Nat → Int32)} {f' : Nat → Int32} {gg' : Nat → Nat → Int32} {fi' A' U' : Nat} {h' : Hp} (k : JM f r n gg fi A U K s tm N B e1 e2 bx h) (x : Fr [86, 87] [24, 25, 41] [] [] h h') (e86 : gI h' 86 = f') (e24 : gI h' 81 24 = nI A') (e25 : gI h' 81 25 = nI U') (e41 : gI h' 81 41 = 0) (pa : PA gg' A' U' h') : JM f' r n gg' fi' A' U' K s tm N B e1 e2 bx h' := by
  obtain ⟨k1, k2, k3, k4, k5, k6, k7, k8, k9, k10, k11, k12, k13, k14⟩ := k
  refine ⟨fr_Mrc x (by decide) (by decide) (by decide) k1, e86, Or.inl e41, e24, e25, pa, KS_fr x (by decide) (by decide) (by decide) k7, ?_, by rw [fr_F x (by decide) (by decide)]; exact k9, by rw [fr_F x (by decide) (by decide)]; exact k10, by rw [fr_I x (x := 82) (by decide) (by decide)]; exact k11, by rw [fr_F x (by decide) (by decide)]; exact k12, by rw [fr_F x (by decide) (by decide)]; exact k13, fun β hβ => BXm_eq (k14 β hβ) (fr_I x (by decide) (by decide)) (fr_I x (by decide) (by decide))⟩
  rw [kn_fr x (by decide) (by decide) (by decide) (by decide) (by decide) (by decide)]
  exact k8
theorem JM_act {f : Nat → Int32} {r n : Nat} {gg : Nat → Nat → Int32} {fi A U : Nat} {K : KT} {s : Nat} {tm : Int32} {N : Nat} {B : Nat → Int32} {e1 e2 : Int32} {bx : Nat → Option (Nat → Int32)} {f' : Nat → Int32} {fi' : Nat} {h2 h3 : Hp} (k : JM f r n gg fi A U K s tm N B e1 e2 bx h) (jp : JP f r n gg fi A U K s tm N B e1 e2 bx) (hA : A + U ≤ 20) (ai : AI h h2 A) (x3 : Fr [86] [] [] [] h2 h3) (e86 : gI h3 86 = f') : JM f' r n (gN' gg A f') fi' (A1 A + 1) 0 K s tm N B e1 e2 bx h3 := by
  obtain ⟨x, a1, a2, a3, a4⟩ := ai
  have dA1 := dA_A1 (A := A) (by omega)
  refine JM_ch k (fr_trans (fr_mono x (by simp) (by simp) (by simp) (by simp)) (fr_mono x3 (by simp) (by simp) (by simp) (by simp))) e86 (by rw [fr_F x3 (by decide) (by decide)]; exact a1) (by rw [fr_F x3 (by decide) (by decide)]; exact a2) (by rw [fr_F x3 (by decide) (by decide)]; exact a3) (fun q j hq hj => ?_)
  have l19 : A1 A ≤ 19 := by unfold A1; split <;> omega
  rw [fr_I x3 (x := 87) (by decide) (by decide), a4 _ (by omega), if_pos (by omega)]
  have pa := k.2.2.2.2.2.1
  have e : gN' gg A f' q = gg (q + dA A) := if_pos (by omega)
  rw [e]
  unfold pP
  by_cases g : q = A1 A
  · rw [if_pos (by omega), g, dA1, show 44 * A1 A + j - 44 * A1 A = j from by omega, k.2.1, jp.2.1]
  · rw [if_neg (by omega)]
    by_cases g2 : A = 20
    · rw [if_pos g2, show 44 * q + j + 44 = 44 * (q + 1) + j from by omega]
      have a19 : A1 A = 19 := by unfold A1; rw [if_pos g2]
      have d1 : dA A = 1 := by unfold dA; rw [if_pos g2]
      rw [pa (q + 1) j (by omega) hj, if_pos (by omega), d1]
    · rw [if_neg g2]
      have a19 : A1 A = A := by unfold A1; rw [if_neg g2]
      have d1 : dA A = 0 := by unfold dA; rw [if_neg g2]
      rw [pa q j (by omega) hj, if_pos (by omega), d1]
      rfl
theorem JP_act {f : Nat → Int32} {r n : Nat} {gg : Nat → Nat → Int32} {fi A U : Nat} {K : KT} {s : Nat} {tm : Int32} {N : Nat} {B : Nat → Int32} {e1 e2 : Int32} {bx : Nat → Option (Nat → Int32)} {f' : Nat → Int32} {fi' : Nat} (jp : JP f r n gg fi A U K s tm N B e1 e2 bx) (hA : A + U ≤ 20) (o : OF r n f') : JP f' r n (gN' gg A f') fi' (A1 A + 1) 0 K s tm N B e1 e2 bx := by
  obtain ⟨p1, p2, p3, p4, p5, p6⟩ := jp
  have dA1 := dA_A1 (A := A) (by omega)
  refine ⟨o, gN_A, fun k hk => ?_, p4, p5, p6⟩
  by_cases g : k ≤ A1 A
  · have e : gN' gg A f' k = gg (k + dA A) := if_pos g
    rw [e]
    exact p3 _ (by omega)
  · have e : gN' gg A f' k = f' := if_neg g
    rw [e]
    exact o
theorem jA {f : Nat → Int32} {r n : Nat} {gg : Nat → Nat → Int32} {fi A U : Nat} {K : KT} {s : Nat} {tm : Int32} {N : Nat} {B : Nat → Int32} {e1 e2 : Int32} {bx : Nat → Option (Nat → Int32)} {b ρ a : Nat} (k : JC f r n gg fi A U K s tm N B e1 e2 bx b ρ a h) : A + U ≤ 20 := k.2.2.2.2.1.2.2.2.2.1
theorem c_change {c ρ : Nat} {x y z : Int32} {R : Int32 → Hp → Prop} (hc : c < 2 ^ 30) (j : JJ c ρ h) (hR : ∀ q h1, gK h1 81 = 12 → (∀ S : Int32 → Hp → Prop, (∀ h2, JJ (c + 8) ρ h2 → S q h2) → w_M_change 81 x y z h1 S) → R q h1) : w_X_change 16 x y z h R := by
  obtain ⟨f, r, n, gg, fi, A, U, K, s, tm, N, B, e1, e2, bx, b, a, hb, jc, jm, jp⟩ := j
  have hA := jA jc
  have hb1 := jc.2.2.1
  have ar := jc.2.2.2.2.1
  have hn8 := jc.1.2.1.2.2.2.2.2
  have hr3 := jc.1.2.1.2.2.2.2.1
  have mA := jm.2.2.2.1
  have ok : ∀ i k, i < n → k < r → x = nI i → y = nI k → (decide (-5 ≤ z) && decide (z ≤ 5)) = true → (inb x n && (inb y r && (decide (-5 ≤ z) && decide (z ≤ 5)))) = false → False := fun i k hi hk ei ek vz q => by
    rw [ei, ek, vz, inb_nI (by omega) hi, inb_nI (by omega) hk] at q
    cases q
  refine t_X_change jc.1 ar jp.2.1 hb1 (fun iv => hR _ h (M_K jm.1.1) (fun S hS => t_M_change jm.1 mA (by omega) (fun _ => hS h ⟨f, r, n, gg, fi, A, U, K, s, tm, N, B, e1, e2, bx, b, a, by omega, jc, jm, jp⟩) (fun i k hi hk ei ek vz => (ok i k hi hk ei ek vz iv).elim))) (fun i k hi hk ei ek vz => ⟨fun eq => hR _ h (M_K jm.1.1) (fun S hS => t_M_change jm.1 mA (by omega) (fun iv => (ok i k hi hk ei ek vz iv).elim) (fun i' k' hi' hk' ei' ek' vz' => ?_)), fun ne h1 th => ?_⟩)
  · have iq : i = i' := by
      rw [ei] at ei'
      exact (nI_eq (by omega) (by omega)).mp ei'
    subst iq
    have kq : k = k' := by
      rw [ek] at ek'
      exact (nI_eq (by omega) (by omega)).mp ek'
    subst kq
    rw [← jm.2.1] at eq
    exact ⟨fun _ => hS h ⟨f, r, n, gg, fi, A, U, K, s, tm, N, B, e1, e2, bx, b, a, by omega, jc, jm, jp⟩, fun q => absurd eq q⟩
  · have o : OF r n (up f (3 * i + k) z) := OF_up hn8 jp.1 (by omega) (fun _ => ⟨(dec_rg vz).1, (dec_rg vz).2, by omega⟩) (fun q => by omega) (fun q => by omega) (fun q => by omega) (fun q => by omega)
    obtain ⟨b', hb2, hb3, jc1⟩ := JC_TH jc th o
    have jm1 := JM_X jm (fz_C th.1 (by decide) (by decide))
    refine hR _ h1 (M_K jm1.1.1) (fun S hS => t_M_change jm1.1 jm1.2.2.2.1 (by omega) (fun iv => (ok i k hi hk ei ek vz iv).elim) (fun i' k' hi' hk' ei' ek' vz' => ?_))
    have iq : i = i' := by
      rw [ei] at ei'
      exact (nI_eq (by omega) (by omega)).mp ei'
    subst iq
    have kq : k = k' := by
      rw [ek] at ek'
      exact (nI_eq (by omega) (by omega)).mp ek'
    subst kq
    refine ⟨fun q => absurd (by rw [← jm1.2.1]; exact q) ne, fun _ h2 ai => ?_⟩
    rw [jm1.2.1]
    have x3 : Fr [86] [] [] [] h2 (sI h2 86 (3 * i + k) z) := fr_sI _ _ (Or.inl (by simp))
    have e86 : gI (sI h2 86 (3 * i + k) z) 86 = up f (3 * i + k) z := by
      funext q
      rw [gI_sI, fr_I ai.1 (x := 86) (by decide) (by decide), jm1.2.1]
      unfold up
      by_cases g : q = 3 * i + k
      · rw [if_pos ⟨rfl, g⟩, if_pos g]
      · rw [if_neg (fun y => g y.2), if_neg g]
    exact hS _ ⟨up f (3 * i + k) z, r, n, gN' gg A (up f (3 * i + k) z), fiN fi A, A1 A + 1, 0, K, s, tm, N, B, e1, e2, bx, b', a, by omega, JC_M jc1 (fx_trans (fx_M ai.1 (by decide) (by decide)) (fx_M x3 (by decide) (by decide))), JM_act jm1 jp hA ai x3 e86, JP_act jp hA o⟩
theorem c_worth {c ρ : Nat} {x y : Int32} {R : Int32 → Hp → Prop} (hc : c < 2 ^ 30) (j : JJ c ρ h) (hR : ∀ q h1, gK h1 81 = 12 → (∀ S : Int32 → Hp → Prop, (∀ h2, JJ (c + 8) ρ h2 → S q h2) → w_M_worth 81 x y h1 S) → R q h1) : w_X_worth 16 x y h R := by
  obtain ⟨f, r, n, gg, fi, A, U, K, s, tm, N, B, e1, e2, bx, b, a, hb, jc, jm, jp⟩ := j
  have hA := jA jc
  have hb1 := jc.2.2.1
  have ar := jc.2.2.2.2.1
  have hn8 := jc.1.2.1.2.2.2.2.2
  have hr3 := jc.1.2.1.2.2.2.2.1
  have mA := jm.2.2.2.1
  have ok : ∀ i, i < n → x = nI i → (decide (-99 ≤ y) && decide (y ≤ 99)) = true → (inb x n && (decide (-99 ≤ y) && decide (y ≤ 99))) = false → False := fun i hi ei vz q => by
    rw [ei, vz, inb_nI (by omega) hi] at q
    cases q
  refine t_X_worth jc.1 ar jp.2.1 hb1 (fun iv => hR _ h (M_K jm.1.1) (fun S hS => t_M_worth jm.1 mA (by omega) (fun _ => hS h ⟨f, r, n, gg, fi, A, U, K, s, tm, N, B, e1, e2, bx, b, a, by omega, jc, jm, jp⟩) (fun i hi ei vz => (ok i hi ei vz iv).elim))) (fun i hi ei vz => ⟨fun eq => hR _ h (M_K jm.1.1) (fun S hS => t_M_worth jm.1 mA (by omega) (fun iv => (ok i hi ei vz iv).elim) (fun i' hi' ei' vz' => ?_)), fun ne h1 th => ?_⟩)
  · have iq : i = i' := by
      rw [ei] at ei'
      exact (nI_eq (by omega) (by omega)).mp ei'
    subst iq
    rw [← jm.2.1] at eq
    exact ⟨fun _ => hS h ⟨f, r, n, gg, fi, A, U, K, s, tm, N, B, e1, e2, bx, b, a, by omega, jc, jm, jp⟩, fun q => absurd eq q⟩
  · have o : OF r n (up f (24 + i) y) := OF_up hn8 jp.1 (by omega) (fun q => by omega) (fun _ _ => dec_rg vz) (fun q => by omega) (fun q => by omega) (fun q => by omega)
    obtain ⟨b', hb2, hb3, jc1⟩ := JC_TH jc th o
    have jm1 := JM_X jm (fz_C th.1 (by decide) (by decide))
    refine hR _ h1 (M_K jm1.1.1) (fun S hS => t_M_worth jm1.1 jm1.2.2.2.1 (by omega) (fun iv => (ok i hi ei vz iv).elim) (fun i' hi' ei' vz' => ?_))
    have iq : i = i' := by
      rw [ei] at ei'
      exact (nI_eq (by omega) (by omega)).mp ei'
    subst iq
    refine ⟨fun q => absurd (by rw [← jm1.2.1]; exact q) ne, fun _ h2 ai => ?_⟩
    rw [jm1.2.1]
    have x3 : Fr [86] [] [] [] h2 (sI h2 86 (24 + i) y) := fr_sI _ _ (Or.inl (by simp))
    have e86 : gI (sI h2 86 (24 + i) y) 86 = up f (24 + i) y := by
      funext q
      rw [gI_sI, fr_I ai.1 (x := 86) (by decide) (by decide), jm1.2.1]
      unfold up
      by_cases g : q = 24 + i
      · rw [if_pos ⟨rfl, g⟩, if_pos g]
      · rw [if_neg (fun y => g y.2), if_neg g]
    exact hS _ ⟨up f (24 + i) y, r, n, gN' gg A (up f (24 + i) y), fiN fi A, A1 A + 1, 0, K, s, tm, N, B, e1, e2, bx, b', a, by omega, JC_M jc1 (fx_trans (fx_M ai.1 (by decide) (by decide)) (fx_M x3 (by decide) (by decide))), JM_act jm1 jp hA ai x3 e86, JP_act jp hA o⟩
theorem c_want {c ρ : Nat} {x y : Int32} {R : Int32 → Hp → Prop} (hc : c < 2 ^ 30) (j : JJ c ρ h) (hR : ∀ q h1, gK h1 81 = 12 → (∀ S : Int32 → Hp → Prop, (∀ h2, JJ (c + 8) ρ h2 → S q h2) → w_M_want 81 x y h1 S) → R q h1) : w_X_want 16 x y h R := by
  obtain ⟨f, r, n, gg, fi, A, U, K, s, tm, N, B, e1, e2, bx, b, a, hb, jc, jm, jp⟩ := j
  have hA := jA jc
  have hb1 := jc.2.2.1
  have ar := jc.2.2.2.2.1
  have hn8 := jc.1.2.1.2.2.2.2.2
  have hr3 := jc.1.2.1.2.2.2.2.1
  have mA := jm.2.2.2.1
  have ok : ∀ i, i < r → x = nI i → (decide (-20 ≤ y) && decide (y ≤ 20)) = true → (inb x r && (decide (-20 ≤ y) && decide (y ≤ 20))) = false → False := fun i hi ei vz q => by
    rw [ei, vz, inb_nI (by omega) hi] at q
    cases q
  refine t_X_want jc.1 ar jp.2.1 hb1 (fun iv => hR _ h (M_K jm.1.1) (fun S hS => t_M_want jm.1 mA (by omega) (fun _ => hS h ⟨f, r, n, gg, fi, A, U, K, s, tm, N, B, e1, e2, bx, b, a, by omega, jc, jm, jp⟩) (fun i hi ei vz => (ok i hi ei vz iv).elim))) (fun i hi ei vz => ⟨fun eq => hR _ h (M_K jm.1.1) (fun S hS => t_M_want jm.1 mA (by omega) (fun iv => (ok i hi ei vz iv).elim) (fun i' hi' ei' vz' => ?_)), fun ne h1 th => ?_⟩)
  · have iq : i = i' := by
      rw [ei] at ei'
      exact (nI_eq (by omega) (by omega)).mp ei'
    subst iq
    rw [← jm.2.1] at eq
    exact ⟨fun _ => hS h ⟨f, r, n, gg, fi, A, U, K, s, tm, N, B, e1, e2, bx, b, a, by omega, jc, jm, jp⟩, fun q => absurd eq q⟩
  · have o : OF r n (up f (32 + i) y) := OF_up hn8 jp.1 (by omega) (fun q => by omega) (fun _ q => by omega) (fun _ _ => ⟨(dec_rg vz).1, (dec_rg vz).2, by omega⟩) (fun q => by omega) (fun q => by omega)
    obtain ⟨b', hb2, hb3, jc1⟩ := JC_TH jc th o
    have jm1 := JM_X jm (fz_C th.1 (by decide) (by decide))
    refine hR _ h1 (M_K jm1.1.1) (fun S hS => t_M_want jm1.1 jm1.2.2.2.1 (by omega) (fun iv => (ok i hi ei vz iv).elim) (fun i' hi' ei' vz' => ?_))
    have iq : i = i' := by
      rw [ei] at ei'
      exact (nI_eq (by omega) (by omega)).mp ei'
    subst iq
    refine ⟨fun q => absurd (by rw [← jm1.2.1]; exact q) ne, fun _ h2 ai => ?_⟩
    rw [jm1.2.1]
    have x3 : Fr [86] [] [] [] h2 (sI h2 86 (32 + i) y) := fr_sI _ _ (Or.inl (by simp))
    have e86 : gI (sI h2 86 (32 + i) y) 86 = up f (32 + i) y := by
      funext q
      rw [gI_sI, fr_I ai.1 (x := 86) (by decide) (by decide), jm1.2.1]
      unfold up
      by_cases g : q = 32 + i
      · rw [if_pos ⟨rfl, g⟩, if_pos g]
      · rw [if_neg (fun y => g y.2), if_neg g]
    exact hS _ ⟨up f (32 + i) y, r, n, gN' gg A (up f (32 + i) y), fiN fi A, A1 A + 1, 0, K, s, tm, N, B, e1, e2, bx, b', a, by omega, JC_M jc1 (fx_trans (fx_M ai.1 (by decide) (by decide)) (fx_M x3 (by decide) (by decide))), JM_act jm1 jp hA ai x3 e86, JP_act jp hA o⟩
theorem c_allow {c ρ : Nat} {x : Int32} {R : Int32 → Hp → Prop} (hc : c < 2 ^ 30) (j : JJ c ρ h) (hR : ∀ q h1, gK h1 81 = 12 → (∀ S : Int32 → Hp → Prop, (∀ h2, JJ (c + 8) ρ h2 → S q h2) → w_M_allow 81 x h1 S) → R q h1) : w_X_allow 16 x h R := by
  obtain ⟨f, r, n, gg, fi, A, U, K, s, tm, N, B, e1, e2, bx, b, a, hb, jc, jm, jp⟩ := j
  have hA := jA jc
  have hb1 := jc.2.2.1
  have ar := jc.2.2.2.2.1
  have hn8 := jc.1.2.1.2.2.2.2.2
  have hr3 := jc.1.2.1.2.2.2.2.1
  have mA := jm.2.2.2.1
  have ok : (decide (1 ≤ x) && decide (x ≤ 12)) = true → (decide (1 ≤ x) && decide (x ≤ 12)) = false → False := fun vz q => by
    rw [vz] at q
    cases q
  refine t_X_allow jc.1 ar jp.2.1 hb1 (fun iv => hR _ h (M_K jm.1.1) (fun S hS => t_M_allow jm.1.1 mA (by omega) (fun _ => hS h ⟨f, r, n, gg, fi, A, U, K, s, tm, N, B, e1, e2, bx, b, a, by omega, jc, jm, jp⟩) (fun vz => (ok vz iv).elim))) (fun vz => ⟨fun eq => hR _ h (M_K jm.1.1) (fun S hS => t_M_allow jm.1.1 mA (by omega) (fun iv => (ok vz iv).elim) (fun vz' => ?_)), fun ne h1 th => ?_⟩)
  · rw [← jm.2.1] at eq
    exact ⟨fun _ => hS h ⟨f, r, n, gg, fi, A, U, K, s, tm, N, B, e1, e2, bx, b, a, by omega, jc, jm, jp⟩, fun q => absurd eq q⟩
  · have o : OF r n (up f (35) x) := OF_up hn8 jp.1 (by omega) (fun q => by omega) (fun _ q => by omega) (fun _ q => by omega) (fun _ => by
      have q := dec_rg vz; have t1 : (1 : Int32).toInt = 1 := rfl; have t2 : (12 : Int32).toInt = 12 := rfl
      exact ⟨x.toInt.toNat, by omega, toInt_nI (by omega) (by omega)⟩) (fun q => by omega)
    obtain ⟨b', hb2, hb3, jc1⟩ := JC_TH jc th o
    have jm1 := JM_X jm (fz_C th.1 (by decide) (by decide))
    refine hR _ h1 (M_K jm1.1.1) (fun S hS => t_M_allow jm1.1.1 jm1.2.2.2.1 (by omega) (fun iv => (ok vz iv).elim) (fun vz' => ?_))
    refine ⟨fun q => absurd (by rw [← jm1.2.1]; exact q) ne, fun _ h2 ai => ?_⟩
    rw [jm1.2.1]
    have x3 : Fr [86] [] [] [] h2 (sI h2 86 (35) x) := fr_sI _ _ (Or.inl (by simp))
    have e86 : gI (sI h2 86 (35) x) 86 = up f (35) x := by
      funext q
      rw [gI_sI, fr_I ai.1 (x := 86) (by decide) (by decide), jm1.2.1]
      unfold up
      by_cases g : q = 35
      · rw [if_pos ⟨rfl, g⟩, if_pos g]
      · rw [if_neg (fun y => g y.2), if_neg g]
    exact hS _ ⟨up f (35) x, r, n, gN' gg A (up f (35) x), fiN fi A, A1 A + 1, 0, K, s, tm, N, B, e1, e2, bx, b', a, by omega, JC_M jc1 (fx_trans (fx_M ai.1 (by decide) (by decide)) (fx_M x3 (by decide) (by decide))), JM_act jm1 jp hA ai x3 e86, JP_act jp hA o⟩
theorem c_hold {c ρ : Nat} {x y : Int32} {R : Int32 → Hp → Prop} (hc : c < 2 ^ 30) (j : JJ c ρ h) (hR : ∀ q h1, gK h1 81 = 12 → (∀ S : Int32 → Hp → Prop, (∀ h2, JJ (c + 8) ρ h2 → S q h2) → w_M_hold 81 x y h1 S) → R q h1) : w_X_hold 16 x y h R := by
  obtain ⟨f, r, n, gg, fi, A, U, K, s, tm, N, B, e1, e2, bx, b, a, hb, jc, jm, jp⟩ := j
  have hA := jA jc
  have hb1 := jc.2.2.1
  have ar := jc.2.2.2.2.1
  have hn8 := jc.1.2.1.2.2.2.2.2
  have hr3 := jc.1.2.1.2.2.2.2.1
  have mA := jm.2.2.2.1
  have ok : ∀ i, i < n → x = nI i → (decide (0 ≤ y) && decide (y ≤ 99)) = true → (inb x n && (decide (0 ≤ y) && decide (y ≤ 99))) = false → False := fun i hi ei vz q => by
    rw [ei, vz, inb_nI (by omega) hi] at q
    cases q
  have hw : ∀ i, i < n → ¬ f (36 + i) = -1000001 := fun i hi q => by
    have := jp.1.2.2.2.2.1 i hi
    rw [q, show (-1000001 : Int32).toInt = -1000001 from rfl] at this
    omega
  refine t_X_hold jc.1 ar jp.2.1 hb1 jp.1.2.2.2.2.1 (fun iv => hR _ h (M_K jm.1.1) (fun S hS => t_M_hold jm.1 mA (by omega) (fun i hi q => hw i hi (by rw [← jm.2.1]; exact q)) (fun _ => hS h ⟨f, r, n, gg, fi, A, U, K, s, tm, N, B, e1, e2, bx, b, a, by omega, jc, jm, jp⟩) (fun i hi ei vz => (ok i hi ei vz iv).elim))) (fun i hi ei vz => ⟨fun eq => hR _ h (M_K jm.1.1) (fun S hS => t_M_hold jm.1 mA (by omega) (fun i hi q => hw i hi (by rw [← jm.2.1]; exact q)) (fun iv => (ok i hi ei vz iv).elim) (fun i' hi' ei' vz' => ?_)), fun ne h1 th => ?_⟩)
  · have iq : i = i' := by
      rw [ei] at ei'
      exact (nI_eq (by omega) (by omega)).mp ei'
    subst iq
    rw [← jm.2.1] at eq
    exact ⟨fun _ => hS h ⟨f, r, n, gg, fi, A, U, K, s, tm, N, B, e1, e2, bx, b, a, by omega, jc, jm, jp⟩, fun q => absurd eq q⟩
  · have o : OF r n (up f (36 + i) y) := OF_up hn8 jp.1 (by omega) (fun q => by omega) (fun _ q => by omega) (fun _ q => by omega) (fun q => by omega) (fun _ => dec_rg vz)
    obtain ⟨b', hb2, hb3, jc1⟩ := JC_TH jc th o
    have jm1 := JM_X jm (fz_C th.1 (by decide) (by decide))
    refine hR _ h1 (M_K jm1.1.1) (fun S hS => t_M_hold jm1.1 jm1.2.2.2.1 (by omega) (fun i hi q => hw i hi (by rw [← jm1.2.1]; exact q)) (fun iv => (ok i hi ei vz iv).elim) (fun i' hi' ei' vz' => ?_))
    have iq : i = i' := by
      rw [ei] at ei'
      exact (nI_eq (by omega) (by omega)).mp ei'
    subst iq
    refine ⟨fun q => absurd (by rw [← jm1.2.1]; exact q) ne, fun _ h2 ai => ?_⟩
    rw [jm1.2.1]
    have x3 : Fr [86] [] [] [] h2 (sI h2 86 (36 + i) y) := fr_sI _ _ (Or.inl (by simp))
    have e86 : gI (sI h2 86 (36 + i) y) 86 = up f (36 + i) y := by
      funext q
      rw [gI_sI, fr_I ai.1 (x := 86) (by decide) (by decide), jm1.2.1]
      unfold up
      by_cases g : q = 36 + i
      · rw [if_pos ⟨rfl, g⟩, if_pos g]
      · rw [if_neg (fun y => g y.2), if_neg g]
    exact hS _ ⟨up f (36 + i) y, r, n, gN' gg A (up f (36 + i) y), fiN fi A, A1 A + 1, 0, K, s, tm, N, B, e1, e2, bx, b', a, by omega, JC_M jc1 (fx_trans (fx_M ai.1 (by decide) (by decide)) (fx_M x3 (by decide) (by decide))), JM_act jm1 jp hA ai x3 e86, JP_act jp hA o⟩
theorem c_undo {c ρ : Nat} {R : Bool → Hp → Prop} (hc : c < 2 ^ 30) (j : JJ c ρ h) (hR : ∀ q h1, gK h1 81 = 12 → (∀ S : Bool → Hp → Prop, (∀ h2, JJ (c + 8) ρ h2 → S q h2) → w_M_undo 81  h1 S) → R q h1) : w_X_undo 16  h R := by
  obtain ⟨f, r, n, gg, fi, A, U, K, s, tm, N, B, e1, e2, bx, b, a, hb, jc, jm, jp⟩ := j
  have hA := jA jc
  have hb1 := jc.2.2.1
  have ar := jc.2.2.2.2.1
  have hn8 := jc.1.2.1.2.2.2.2.2
  have hr3 := jc.1.2.1.2.2.2.2.1
  have mA := jm.2.2.2.1
  refine t_X_undo jc.1 ar jp.2.1 hb1 (fun a0 => hR _ h (M_K jm.1.1) (fun S hS => t_M_undo2 jm.1.1 mA (by omega) jm.2.2.2.2.1 (fun _ => hS h ⟨f, r, n, gg, fi, A, U, K, s, tm, N, B, e1, e2, bx, b, a, by omega, jc, jm, jp⟩) (fun h2 k e _ _ _ _ _ => by omega))) (fun h1 k ek th => ?_)
  have o : OF r n (gg k) := jp.2.2.1 k (by omega)
  obtain ⟨b', hb2, hb3, jc1⟩ := JC_TH jc th o
  have jm1 := JM_X jm (fz_C th.1 (by decide) (by decide))
  refine hR _ h1 (M_K jm1.1.1) (fun S hS => t_M_undo2 jm1.1.1 jm1.2.2.2.1 (by omega) jm1.2.2.2.2.1 (fun e => by omega) (fun h2 k2 ek2 x2 a24 a25 a41 ex => ?_))
  have ekk : k2 = k := by omega
  subst ekk
  have pa := jm1.2.2.2.2.2.1
  have e86 : gI h2 86 = gg k2 := by
    funext q
    by_cases g : q < 44
    · rw [ex.1.1 q g, pa k2 q (by omega) g, if_pos (by omega)]
    · rw [ex.2 q (by omega), jm1.2.1, jp.1.2.2.2.2.2.2 q (by omega), o.2.2.2.2.2.2 q (by omega)]
  have pa2 : PA gg k2 (U + 1) h2 := fun q i hq hi => by
    rw [ex.1.2 _ (by omega)]
    by_cases g : q = k2
    · rw [if_pos (by omega), g, if_neg (by omega), show 44 * k2 + i - 44 * k2 = i from by omega, jm1.2.1, ← jp.2.1, ek]
    · rw [if_neg (by omega), pa q i (by omega) hi]
      by_cases g2 : q < k2
      · rw [if_pos (by omega), if_pos g2]
      · rw [if_neg (by omega), if_neg g2]
  exact hS h2 ⟨gg k2, r, n, gg, fi, k2, U + 1, K, s, tm, N, B, e1, e2, bx, b', a, by omega, JC_M jc1 (fx_M x2 (by decide) (by decide)), JM_ch jm1 x2 e86 a24 a25 a41 pa2, ⟨o, rfl, fun q hq => jp.2.2.1 q (by omega), jp.2.2.2⟩⟩
theorem c_redo {c ρ : Nat} {R : Bool → Hp → Prop} (hc : c < 2 ^ 30) (j : JJ c ρ h) (hR : ∀ q h1, gK h1 81 = 12 → (∀ S : Bool → Hp → Prop, (∀ h2, JJ (c + 8) ρ h2 → S q h2) → w_M_redo 81  h1 S) → R q h1) : w_X_redo 16  h R := by
  obtain ⟨f, r, n, gg, fi, A, U, K, s, tm, N, B, e1, e2, bx, b, a, hb, jc, jm, jp⟩ := j
  have hA := jA jc
  have hb1 := jc.2.2.1
  have ar := jc.2.2.2.2.1
  have hn8 := jc.1.2.1.2.2.2.2.2
  have hr3 := jc.1.2.1.2.2.2.2.1
  have mA := jm.2.2.2.1
  refine t_X_redo jc.1 ar jp.2.1 hb1 (fun a0 => hR _ h (M_K jm.1.1) (fun S hS => t_M_redo2 jm.1.1 mA jm.2.2.2.2.1 hA (fun _ => hS h ⟨f, r, n, gg, fi, A, U, K, s, tm, N, B, e1, e2, bx, b, a, by omega, jc, jm, jp⟩) (fun h2 k e _ _ _ _ _ => by omega))) (fun h1 k ek th => ?_)
  have o : OF r n (gg (A + 1)) := jp.2.2.1 (A + 1) (by omega)
  obtain ⟨b', hb2, hb3, jc1⟩ := JC_TH jc th o
  have jm1 := JM_X jm (fz_C th.1 (by decide) (by decide))
  refine hR _ h1 (M_K jm1.1.1) (fun S hS => t_M_redo2 jm1.1.1 jm1.2.2.2.1 jm1.2.2.2.2.1 hA (fun e => by omega) (fun h2 k2 ek2 x2 a24 a25 a41 ex => ?_))
  have ekk : k2 = k := by omega
  subst ekk
  have pa := jm1.2.2.2.2.2.1
  have e86 : gI h2 86 = gg (A + 1) := by
    funext q
    by_cases g : q < 44
    · rw [ex.1.1 q g, pa A q (by omega) g, if_neg (by omega)]
    · rw [ex.2 q (by omega), jm1.2.1, jp.1.2.2.2.2.2.2 q (by omega), o.2.2.2.2.2.2 q (by omega)]
  have pa2 : PA gg (A + 1) k2 h2 := fun q i hq hi => by
    rw [ex.1.2 _ (by omega)]
    by_cases g : q = A
    · rw [if_pos (by omega), g, if_pos (by omega), show 44 * A + i - 44 * A = i from by omega, jm1.2.1, ← jp.2.1]
    · rw [if_neg (by omega), pa q i (by omega) hi]
      by_cases g2 : q < A
      · rw [if_pos g2, if_pos (by omega)]
      · rw [if_neg g2, if_neg (by omega)]
  exact hS h2 ⟨gg (A + 1), r, n, gg, fi, A + 1, k2, K, s, tm, N, B, e1, e2, bx, b', a, by omega, JC_M jc1 (fx_M x2 (by decide) (by decide)), JM_ch jm1 x2 e86 a24 a25 a41 pa2, ⟨o, rfl, fun q hq => jp.2.2.1 q (by omega), jp.2.2.2⟩⟩
theorem OF_bt {r n mo : Nat} {f : Nat → Int32} {d : CT} (hn : n ≤ 8) (hmo : mo ≤ 3) (o : OF r n f) (ok : okX f r n mo d) : OF r n (fun j => if 36 ≤ j ∧ j < 36 + n then f j + (nI (xT (xM n d.2.2.2) (j - 36)) - nI (xT (xM n d.2.2.1) (j - 36))) else f j) := by
  obtain ⟨o1, o2, o3, o4, o5, o6, o7⟩ := o
  obtain ⟨k1, k2, k3, k4, k5, k6⟩ := ok
  have ne : ∀ x, x < 36 → (fun j => if 36 ≤ j ∧ j < 36 + n then f j + (nI (xT (xM n d.2.2.2) (j - 36)) - nI (xT (xM n d.2.2.1) (j - 36))) else f j) x = f x := fun x hx => if_neg (by omega)
  refine ⟨fun c j hc hj => ?_, fun j hj => ?_, fun c hc => ?_, fun j hr hj => ⟨?_, fun c hc => ?_⟩, fun c hc => ?_, ?_, fun j hj => ?_⟩
  · rw [ne _ (by omega)]; exact o1 c j hc hj
  · rw [ne _ (by omega)]; exact o2 j hj
  · rw [ne _ (by omega)]; exact o3 c hc
  · rw [ne _ (by omega)]; exact (o4 j hr hj).1
  · rw [ne _ (by omega)]; exact (o4 j hr hj).2 c hc
  · have e : (fun j => if 36 ≤ j ∧ j < 36 + n then f j + (nI (xT (xM n d.2.2.2) (j - 36)) - nI (xT (xM n d.2.2.1) (j - 36))) else f j) (36 + c) = f (36 + c) + (nI (xT (xM n d.2.2.2) (36 + c - 36)) - nI (xT (xM n d.2.2.1) (36 + c - 36))) := if_pos (by omega)
    rw [e, show 36 + c - 36 = c from by omega]
    have hb := o5 c hc
    have m1 := xP_mem hn (by omega) k3.1 k3.2
    have m2 := xP_mem hn (by omega) k4.1 k4.2
    have l1 := getD_le_sum (xP n (xM n d.2.2.1)) c
    have l2 := getD_le_sum (xP n (xM n d.2.2.2)) c
    rw [(PL_mem m1).2, xP_get hc] at l1
    rw [(PL_mem m2).2, xP_get hc] at l2
    have g1 := of_decide_eq_true (allB_true.mp k5 c hc)
    unfold canC at k6
    rw [Bool.and_eq_true] at k6
    have g2 := of_decide_eq_true (allB_true.mp k6.1 c hc)
    rw [xP_get hc] at g1 g2
    rw [xP_get hc] at g2
    have e1 : (nI (xT (xM n d.2.2.1) c)).toInt = (xT (xM n d.2.2.1) c : Int) := nI_toInt (by omega)
    have e2 : (nI (xT (xM n d.2.2.2) c)).toInt = (xT (xM n d.2.2.2) c : Int) := nI_toInt (by omega)
    have e3 : (99 : Int32).toInt = 99 := rfl
    have s1 : (f (36 + c) - nI (xT (xM n d.2.2.1) c)).toInt = (f (36 + c)).toInt - (xT (xM n d.2.2.1) c : Int) := by rw [Jvm.Kit.i32_sub (by rw [e1]; omega) (by rw [e1]; omega), e1]
    have s2 : (f (36 + c) - nI (xT (xM n d.2.2.1) c) + nI (xT (xM n d.2.2.2) c)).toInt = (f (36 + c)).toInt - (xT (xM n d.2.2.1) c : Int) + (xT (xM n d.2.2.2) c : Int) := by rw [Jvm.Kit.i32_add (by rw [s1, e2]; omega) (by rw [s1, e2]; omega), s1, e2]
    have s3 : (nI (xT (xM n d.2.2.2) c) - nI (xT (xM n d.2.2.1) c)).toInt = (xT (xM n d.2.2.2) c : Int) - (xT (xM n d.2.2.1) c : Int) := by rw [Jvm.Kit.i32_sub (by rw [e1, e2]; omega) (by rw [e1, e2]; omega), e1, e2]
    rw [Int32.lt_iff_toInt_lt, e1] at g1
    rw [Int32.lt_iff_toInt_lt, s2, e3] at g2
    rw [Jvm.Kit.i32_add (by rw [s3]; omega) (by rw [s3]; omega), s3]
    omega
  · rw [ne _ (by omega)]; exact o6
  · have e : (fun j => if 36 ≤ j ∧ j < 36 + n then f j + (nI (xT (xM n d.2.2.2) (j - 36)) - nI (xT (xM n d.2.2.1) (j - 36))) else f j) j = f j := if_neg (by omega)
    rw [e]
    exact o7 j hj
theorem c_better {c ρ : Nat} {x : Int32} {R : Int32 → Hp → Prop} (hc : c < 2 ^ 30) (j : JJ c ρ h) (hR : ∀ q h1, gK h1 81 = 12 → (∀ S : Int32 → Hp → Prop, (∀ h2, JJ (c + 8) ρ h2 → S q h2) → w_M_better 81 x h1 S) → R q h1) : w_X_better 16 x h R := by
  obtain ⟨f, r, n, gg, fi, A, U, K, s, tm, N, B, e1, e2, bx, b, a, hb, jc, jm, jp⟩ := j
  have hA := jA jc
  have hb1 := jc.2.2.1
  have ar := jc.2.2.2.2.1
  have hn8 := jc.1.2.1.2.2.2.2.2
  have hr3 := jc.1.2.1.2.2.2.2.1
  have mA := jm.2.2.2.1
  have hB := jp.1.2.2.2.2.1
  obtain ⟨⟨st, s1, s2, ko⟩, kk, ke, kd, kz⟩ := jc.2.2.2.1
  have hb2 : b < 2 ^ 31 := by omega
  have ok : ∀ mo, 1 ≤ mo → mo ≤ 3 → x = nI mo → (decide (1 ≤ x) && decide (x ≤ 3)) = false → False := fun mo h1 h2 e1 q => by
    rw [e1, decide_eq_true (p := 1 ≤ nI mo) (nI_le (a := 1) h1 (by omega)), decide_eq_true (p := nI mo ≤ 3) (nI_le (b := 3) h2 (by omega))] at q
    cases q
  have un : ∀ mo mo', mo ≤ 3 → mo' ≤ 3 → x = nI mo → x = nI mo' → mo' = mo := fun mo mo' h1 h2 q1 q2 => by
    rw [q1] at q2
    exact ((nI_eq (by omega) (by omega)).mp q2).symm
  refine t_X_better (x := (0, -1, -1, gI h 108, gI h 109)) jc.1 hB ar jp.2.1 hb1 hb2 ke ⟨rfl, rfl⟩ (fun iv => hR _ h (M_K jm.1.1) (fun S hS => t_M_better jm.1 mA (by omega) (fun _ => hS h ⟨f, r, n, gg, fi, A, U, K, s, tm, N, B, e1, e2, bx, b, a, by omega, jc, jm, jp⟩) (fun mo h1 q1 q2 q3 _ _ => (ok mo q1 q2 q3 iv).elim) (fun mo h1 h2 h3 q1 q2 q3 _ _ _ _ _ => (ok mo q1 q2 q3 iv).elim))) (fun mo h1 q1 q2 q3 q4 x1 ke1 => ?_) (fun mo h1 h1' q1 q2 q3 q4 x1 ke1 ⟨d, od, bd⟩ th => ?_)
  · have jm1 := JM_X jm (fz_C x1 (by decide) (by decide))
    have jc1 := JC_fx jc x1 (by decide) ⟨⟨st, s1, s2, KO_fx ko x1 (by decide) (by decide) (by decide)⟩, KK_fx kk x1 (by decide) (by decide) (by decide), ke1, KD_fx kd x1 (by decide) (by decide), KZ_fx kz x1 (by decide) (by decide) (by decide) (by decide) (by decide) (by decide) (by decide)⟩
    have ex : ∀ m, exX h1 r n m = exA f r n m (0, -1, -1, gI h 108, gI h 109) (m + 1) := fun m => by
      unfold exX
      rw [jm1.2.1, fx_I x1 (x := 108) (by decide), fx_I x1 (x := 109) (by decide)]
    refine hR _ h1 (M_K jm1.1.1) (fun S hS => t_M_better jm1.1 jm1.2.2.2.1 (by omega) (fun iv => (ok mo q1 q2 q3 iv).elim) (fun mo' h2 p1 p2 p3 p4 xi => ?_) (fun mo' h2 h3 h4 p1 p2 p3 p4 _ _ _ _ => ?_))
    · exact hS h2 ⟨f, r, n, gg, fi, A, U, K, s, tm, N, B, e1, e2, bx, b, a, by omega, JC_M jc1 (fx_M xi.1 (by decide) (by decide)), JM_fr jm1 xi.1 (by decide) (by decide) (by decide), jp⟩
    · have e := un mo mo' q2 p2 q3 p3
      rw [ex, e] at p4
      exact absurd q4 p4
  · have jm1 := JM_X jm (fz_C x1 (by decide) (by decide))
    have jc1 := JC_fx jc x1 (by decide) ⟨⟨st, s1, s2, KO_fx ko x1 (by decide) (by decide) (by decide)⟩, KK_fx kk x1 (by decide) (by decide) (by decide), ke1, KD_fx kd x1 (by decide) (by decide), KZ_fx kz x1 (by decide) (by decide) (by decide) (by decide) (by decide) (by decide) (by decide)⟩
    have o : OF r n (btF f n (exA f r n mo (0, -1, -1, gI h 108, gI h 109) (mo + 1))) := by
      rw [bd]
      exact OF_bt hn8 q2 jp.1 od
    obtain ⟨b', hb3, hb4, jc2⟩ := JC_TH jc1 th o
    have jm2 := JM_X jm1 (fz_C th.1 (by decide) (by decide))
    have ex : ∀ m, exX h1' r n m = exA f r n m (0, -1, -1, gI h 108, gI h 109) (m + 1) := fun m => by
      unfold exX
      rw [jm2.2.1, fx_I th.1 (x := 108) (by decide), fx_I th.1 (x := 109) (by decide), fx_I x1 (x := 108) (by decide), fx_I x1 (x := 109) (by decide)]
    refine hR _ h1' (M_K jm2.1.1) (fun S hS => t_M_better jm2.1 jm2.2.2.2.1 (by omega) (fun iv => (ok mo q1 q2 q3 iv).elim) (fun mo' h2 p1 p2 p3 p4 xi => ?_) (fun mo' h2 h3 h4 p1 p2 p3 p4 xi ai x4 e4 => ?_))
    · have e := un mo mo' q2 p2 q3 p3
      rw [ex, e] at p4
      exact absurd p4 q4
    · have e := un mo mo' q2 p2 q3 p3
      subst e
      rw [ex, jm2.2.1] at e4
      have e86 : gI h4 86 = btF f n (exA f r n mo' (0, -1, -1, gI h 108, gI h 109) (mo' + 1)) := funext e4
      have jm3 := JM_fr jm2 xi.1 (by decide) (by decide) (by decide)
      rw [e86]
      exact hS h4 ⟨_, r, n, _, fiN fi A, A1 A + 1, 0, K, s, tm, N, B, e1, e2, bx, b', a, by omega, JC_M jc2 (fx_trans (fx_M xi.1 (by decide) (by decide)) (fx_trans (fx_M ai.1 (by decide) (by decide)) (fx_M x4 (by decide) (by decide)))), JM_act jm3 jp hA ai x4 e86, JP_act jp hA o⟩
