/-! Class and reference: acts -/
variable {h : Hp}
theorem up_ne {f : Nat → Int32} {s x : Nat} {v : Int32} (e : x ≠ s) : up f s v x = f x := if_neg e
theorem up_at {f : Nat → Int32} {s : Nat} {v : Int32} : up f s v s = v := if_pos rfl
theorem dec_rg {v lo hi : Int32} (z : (decide (lo ≤ v) && decide (v ≤ hi)) = true) : lo.toInt ≤ v.toInt ∧ v.toInt ≤ hi.toInt := by
  rw [Bool.and_eq_true, decide_eq_true_eq, decide_eq_true_eq, Int32.le_iff_toInt_le, Int32.le_iff_toInt_le] at z
  exact z
theorem OF_up {r n s : Nat} {f : Nat → Int32} {v : Int32} (hn : n ≤ 8) (o : OF r n f) (hs : s < 44) (h1 : s < 24 → -5 ≤ v.toInt ∧ v.toInt ≤ 5 ∧ s % 3 < r) (h2 : 24 ≤ s → s < 32 → -99 ≤ v.toInt ∧ v.toInt ≤ 99) (h3 : 32 ≤ s → s < 35 → -20 ≤ v.toInt ∧ v.toInt ≤ 20 ∧ s - 32 < r) (h4 : s = 35 → ∃ st, st ≤ 12 ∧ v = nI st) (h5 : 36 ≤ s → 0 ≤ v.toInt ∧ v.toInt ≤ 99) : OF r n (up f s v) := by
  obtain ⟨o1, o2, o3, o4, o5, o6, o7⟩ := o
  refine ⟨fun c j hc hj => ?_, fun j hj => ?_, fun c hc => ?_, fun j hr hj => ⟨?_, fun c hc => ?_⟩, fun c hc => ?_, ?_, fun j hj => ?_⟩
  · by_cases g : 3 * c + j = s
    · rw [g, up_at]
      have := h1 (by omega)
      exact ⟨this.1, this.2.1⟩
    · rw [up_ne g]; exact o1 c j hc hj
  · by_cases g : 32 + j = s
    · rw [g, up_at]
      have := h3 (by omega) (by omega)
      exact ⟨this.1, this.2.1⟩
    · rw [up_ne g]; exact o2 j hj
  · by_cases g : 24 + c = s
    · rw [g, up_at]; exact h2 (by omega) (by omega)
    · rw [up_ne g]; exact o3 c hc
  · rw [up_ne (fun g => by have := (h3 (by omega) (by omega)).2.2; omega)]
    exact (o4 j hr hj).1
  · rw [up_ne (fun g => by have := (h1 (by omega)).2.2; omega)]
    exact (o4 j hr hj).2 c hc
  · by_cases g : 36 + c = s
    · rw [g, up_at]; exact h5 (by omega)
    · rw [up_ne g]; exact o5 c hc
  · by_cases g : 35 = s
    · rw [← g, up_at]; exact h4 g.symm
    · rw [up_ne g]; exact o6
  · rw [up_ne (by omega)]; exact o7 j hj
set_option maxRecDepth 4000 in
theorem JC_TH {f : Nat → Int32} {r n : Nat} {gg : Nat → Nat → Int32} {fi A U : Nat} {K : KT} {s : Nat} {tm : Int32} {N : Nat} {B : Nat → Int32} {e1 e2 : Int32} {bx : Nat → Option (Nat → Int32)} {f' : Nat → Int32} {gg' : Nat → Nat → Int32} {fi' A' U' b ρ a : Nat} {h' : Hp} (k : JC f r n gg fi A U K s tm N B e1 e2 bx b ρ a h) (th : TH f' gg' n fi' A' U' b h h') (o : OF r n f') : ∃ b', b < b' ∧ b' ≤ b + 8 ∧ JC f' r n gg' fi' A' U' K s tm N B e1 e2 bx b' ρ a h' := by
  obtain ⟨x, e22, ⟨b', hb1, hb2, e3⟩, e21, ar⟩ := th
  obtain ⟨k1, k2, k3, k4, q1, q2, q3, q4, q5, q6, q7, q8, q9⟩ := k
  obtain ⟨c1, c2, c3, c4, c5, c6, c7, c8⟩ := k1
  have hn := c2.2.2.2.2.2
  refine ⟨b', hb1, hb2, ⟨fx_XS x c1, ⟨fx_CO x (by decide) c2.1, by rw [e21 1 (by decide)]; exact c2.2.1, by rw [e21 2 (by decide)]; exact c2.2.2.1, c2.2.2.2⟩, e22, o.1, o.2.1, o.2.2.1, o.2.2.2.1, by rw [x.2.2.1]; exact c8⟩, by rw [x.2.2.1]; exact k2, e3, KA_up (KA_fx k4 x (by decide) (by decide) (by decide) (by decide) (by decide) (by decide) (by decide) (by decide) (by decide) (by decide) (by decide) (by decide) (by decide) (by decide) (by decide) (by decide) (by decide) (by decide) (by decide)) hb1 o.2.2.2.2.2.1, ar, CTd_fx q2 x (by decide) (by decide), KX_fx q3 x (by decide) (by decide) (by decide) (by decide), by rw [fx_I x (by decide)]; exact q4, by rw [fx_I x (by decide)]; exact q5, by rw [fx_I x (by decide)]; exact q6, by rw [fx_I x (by decide)]; exact q7, by rw [fx_I x (by decide)]; exact q8, fun β hβ => ?_⟩
  match β, hβ with
  | 0, _ => exact BXx_eq (q9 0 (by decide)) (fx_I x (by decide)) (fx_I x (by decide)) (fx_I x (by decide))
  | 1, _ => exact BXx_eq (q9 1 (by decide)) (fx_I x (by decide)) (fx_I x (by decide)) (fx_I x (by decide))
theorem JM_ch {f : Nat → Int32} {r n : Nat} {gg : Nat → Nat → Int32} {fi A U : Nat} {K : KT} {s : Nat} {tm : Int32} {N : Nat} {B : Nat → Int32} {e1 e2 : Int32} {bx : Nat → Option (Nat → Int32)} {f' : Nat → Int32} {gg' : Nat → Nat → Int32} {fi' A' U' : Nat} {h' : Hp} (k : JM f r n gg fi A U K s tm N B e1 e2 bx h) (x : Fr [86, 87] [24, 25, 41] [] [] h h') (e86 : gI h' 86 = f') (e24 : gI h' 81 24 = nI A') (e25 : gI h' 81 25 = nI U') (e41 : gI h' 81 41 = 0) (pa : PA gg' A' U' h') : JM f' r n gg' fi' A' U' K s tm N B e1 e2 bx h' := by
  obtain ⟨k1, k2, k3, k4, k5, k6, k7, k8, k9, k10, k11, k12, k13, k14⟩ := k
  refine ⟨fr_Mrc x (by decide) (by decide) (by decide) k1, e86, Or.inl e41, e24, e25, pa, KS_fr x (by decide) (by decide) (by decide) k7, ?_, by rw [fr_F x (by decide) (by decide)]; exact k9, by rw [fr_F x (by decide) (by decide)]; exact k10, by rw [fr_I x (x := 82) (by decide) (by decide)]; exact k11, by rw [fr_F x (by decide) (by decide)]; exact k12, by rw [fr_F x (by decide) (by decide)]; exact k13, fun β hβ => BXm_eq (k14 β hβ) (fr_I x (by decide) (by decide)) (fr_I x (by decide) (by decide))⟩
  rw [kn_fr x (by decide) (by decide) (by decide) (by decide) (by decide) (by decide)]
  exact k8
theorem JM_act {f : Nat → Int32} {r n : Nat} {gg : Nat → Nat → Int32} {fi A U : Nat} {K : KT} {s : Nat} {tm : Int32} {N : Nat} {B : Nat → Int32} {e1 e2 : Int32} {bx : Nat → Option (Nat → Int32)} {f' : Nat → Int32} {fi' : Nat} {h2 h3 : Hp} (k : JM f r n gg fi A U K s tm N B e1 e2 bx h) (jp : JP f r n gg fi A U K s tm N B e1 e2 bx) (hA : A + U ≤ 20) (ai : AI h h2 A) (x3 : Fr [86] [] [] [] h2 h3) (e86 : gI h3 86 = f') : JM f' r n (gN' gg A f') fi' (A1 A + 1) 0 K s tm N B e1 e2 bx h3 := by
  obtain ⟨x, a1, a2, a3, a4⟩ := ai
  have dA1 := dA_A1 (A := A) (by omega)
  refine JM_ch k (fr_trans (fr_mono x (by simp) (by simp) (by simp) (by simp)) (fr_mono x3 (by simp) (by simp) (by simp) (by simp))) e86 (by rw [fr_F x3 (by decide) (by decide)]; exact a1) (by rw [fr_F x3 (by decide) (by decide)]; exact a2) (by rw [fr_F x3 (by decide) (by decide)]; exact a3) (fun q j hq hj => ?_)
  have l19 : A1 A ≤ 19 := by unfold A1; split <;> omega
  rw [fr_I x3 (x := 87) (by decide) (by decide), a4 _ (by omega), if_pos (by omega)]
  have pa := k.2.2.2.2.2.1
  have e : gN' gg A f' q = gg (q + dA A) := if_pos (by omega)
  rw [e]
  unfold pP
  by_cases g : q = A1 A
  · rw [if_pos (by omega), g, dA1, show 44 * A1 A + j - 44 * A1 A = j from by omega, k.2.1, jp.2.1]
  · rw [if_neg (by omega)]
    by_cases g2 : A = 20
    · rw [if_pos g2, show 44 * q + j + 44 = 44 * (q + 1) + j from by omega]
      have a19 : A1 A = 19 := by unfold A1; rw [if_pos g2]
      have d1 : dA A = 1 := by unfold dA; rw [if_pos g2]
      rw [pa (q + 1) j (by omega) hj, if_pos (by omega), d1]
    · rw [if_neg g2]
      have a19 : A1 A = A := by unfold A1; rw [if_neg g2]
      have d1 : dA A = 0 := by unfold dA; rw [if_neg g2]
      rw [pa q j (by omega) hj, if_pos (by omega), d1]
      rfl
theorem JP_act {f : Nat → Int32} {r n : Nat} {gg : Nat → Nat → Int32} {fi A U : Nat} {K : KT} {s : Nat} {tm : Int32} {N : Nat} {B : Nat → Int32} {e1 e2 : Int32} {bx : Nat → Option (Nat → Int32)} {f' : Nat → Int32} {fi' : Nat} (jp : JP f r n gg fi A U K s tm N B e1 e2 bx) (hA : A + U ≤ 20) (o : OF r n f') : JP f' r n (gN' gg A f') fi' (A1 A + 1) 0 K s tm N B e1 e2 bx := by
  obtain ⟨p1, p2, p3, p4, p5, p6⟩ := jp
  have dA1 := dA_A1 (A := A) (by omega)
  refine ⟨o, gN_A, fun k hk => ?_, p4, p5, p6⟩
  by_cases g : k ≤ A1 A
  · have e : gN' gg A f' k = gg (k + dA A) := if_pos g
    rw [e]
    exact p3 _ (by omega)
  · have e : gN' gg A f' k = f' := if_neg g
    rw [e]
    exact o
theorem jA {f : Nat → Int32} {r n : Nat} {gg : Nat → Nat → Int32} {fi A U : Nat} {K : KT} {s : Nat} {tm : Int32} {N : Nat} {B : Nat → Int32} {e1 e2 : Int32} {bx : Nat → Option (Nat → Int32)} {b ρ a : Nat} (k : JC f r n gg fi A U K s tm N B e1 e2 bx b ρ a h) : A + U ≤ 20 := k.2.2.2.2.1.2.2.2.2.1
