/-! Class and reference: texts -/
variable {h : Hp}
theorem sgn_b {B : Nat → Int32} {N p m : Nat} {y : Int32 × Nat} (hm : m ≤ 99) (e : sgn B N p (nI m) = .ok y) : -(m : Int) ≤ y.1.toInt ∧ y.1.toInt ≤ (m : Int) := by
  obtain ⟨-, -, v, v1, v2, v3⟩ := sgn_sp e
  rw [Int32.le_iff_toInt_le, show (0 : Int32).toInt = 0 from rfl] at v1
  rw [Int32.le_iff_toInt_le, nI_toInt (by omega)] at v2
  rcases v3 with v3 | v3
  · rw [v3]; omega
  · rw [v3, Jvm.Kit.i32_neg (by omega)]; omega
theorem sgs_f {B : Nat → Int32} {N base p m : Nat} {f : Nat → Int32} (hm : m ≤ 99) : ∀ k x, sgs B N base (nI m) p f k = .ok x → (∀ j, (j < base ∨ base + k ≤ j) → x.2 j = f j) ∧ ∀ i, i < k → -(m : Int) ≤ (x.2 (base + i)).toInt ∧ (x.2 (base + i)).toInt ≤ (m : Int) := by
  intro k
  induction k with
  | zero =>
    intro x e
    rw [sgs] at e
    injection e with e
    rw [← e]
    exact ⟨fun _ _ => rfl, fun i hi => absurd hi (Nat.not_lt_zero _)⟩
  | succ k ih =>
    intro x e
    rw [sgs] at e
    cases g : sgs B N base (nI m) p f k with
    | error e' => rw [g] at e; cases e
    | ok y =>
      rw [g] at e
      dsimp only at e
      cases g2 : sgn B N y.1 (nI m) with
      | error e' => rw [g2] at e; cases e
      | ok z =>
        rw [g2] at e
        injection e with e
        obtain ⟨i1, i2⟩ := ih y g
        have zb := sgn_b hm g2
        rw [← e]
        refine ⟨fun j hj => ?_, fun i hi => ?_⟩
        · show upd y.2 (base + k) z.1 j = f j
          rw [pk_un (by omega)]
          exact i1 j (by omega)
        · show -(m : Int) ≤ (upd y.2 (base + k) z.1 (base + i)).toInt ∧ (upd y.2 (base + k) z.1 (base + i)).toInt ≤ (m : Int)
          by_cases q : i = k
          · rw [q, pk_us]; exact zb
          · rw [pk_un (by omega)]; exact i2 i (by omega)
/-- a draft's numbers are as they can be -/
def dFt (r : Nat) (f : Nat → Int32) : Prop := (∀ c j, c < 8 → j < 3 → (-5 ≤ (f (3 * c + j)).toInt ∧ (f (3 * c + j)).toInt ≤ 5) ∧ (r ≤ j → f (3 * c + j) = 0)) ∧ (∀ c, c < 8 → -99 ≤ (f (24 + c)).toInt ∧ (f (24 + c)).toInt ≤ 99) ∧ (∀ j, j < 3 → (-20 ≤ (f (32 + j)).toInt ∧ (f (32 + j)).toInt ≤ 20) ∧ (r ≤ j → f (32 + j) = 0)) ∧ (∃ st, st ≤ 12 ∧ f 35 = nI st) ∧ ∀ c, c < 8 → f (36 + c) = 0
def dG (s : PSt) : Prop := dFt s.2.2.1 s.2.1 ∧ s.2.2.2.1.length ≤ 8 ∧ s.2.2.1 ≤ 3 ∧ (s.2.2.2.2.1 = false → s.2.1 = s0L.2.1)
theorem dFt_0 (r : Nat) : dFt r s0L.2.1 := by
  have z : ∀ k, k ≠ 35 → s0L.2.1 k = 0 := fun k hk => if_neg hk
  have z0 : (0 : Int32).toInt = 0 := rfl
  refine ⟨fun c j hc hj => ?_, fun c hc => ?_, fun j hj => ?_, ⟨8, by decide, rfl⟩, fun c hc => z _ (by omega)⟩
  · rw [z _ (by omega), z0]; exact ⟨by omega, fun _ => rfl⟩
  · rw [z _ (by omega), z0]; omega
  · rw [z _ (by omega), z0]; exact ⟨by omega, fun _ => rfl⟩
theorem bodL_dFt {B : Nat → Int32} {N : Nat} {s x : PSt} (hs : dG s) (e : bodL B N s = .ok x) : dFt x.2.2.1 x.2.1 := by
  obtain ⟨d1, d2, d3, d4⟩ := hs
  unfold bodL at e
  by_cases k1 : isK B N s.1 wRows = true
  · rw [if_pos k1] at e
    unfold rowL at e
    by_cases g : s.2.2.2.2.1 = true
    · rw [if_pos g] at e; cases e
    · rw [if_neg g] at e
      have g : s.2.2.2.2.1 = false := by
        cases q : s.2.2.2.2.1 with
        | false => rfl
        | true => exact absurd q g
      cases g2 : nIn B N (sp B N s.1) 1 3 with
      | error e' => rw [g2] at e; cases e
      | ok y =>
        rw [g2] at e
        injection e with e
        rw [← e]
        show dFt (ix y.1) s.2.1
        rw [d4 g]
        exact dFt_0 _
  · rw [if_neg k1] at e
    by_cases k2 : isK B N s.1 wColumn = true
    · rw [if_pos k2] at e
      unfold colL at e
      by_cases g1 : s.2.2.2.1.length = 8
      · rw [if_pos g1] at e; cases e
      · rw [if_neg g1] at e
        by_cases g2 : kd B N (sp B N s.1) ≠ 1 ∨ wd B N (sp B N s.1) ∈ wAll
        · rw [if_pos g2] at e; cases e
        · rw [if_neg g2] at e
          by_cases g3 : wd B N (sp B N s.1) ∈ s.2.2.2.1
          · rw [if_pos g3] at e; cases e
          · rw [if_neg g3] at e
            cases g4 : sgs B N (3 * s.2.2.2.1.length) 5 (sp B N (sp B N s.1)) s.2.1 s.2.2.1 with
            | error e' => rw [g4] at e; cases e
            | ok y =>
              rw [g4] at e
              dsimp only at e
              by_cases g5 : isK B N y.1 wGain = true
              · rw [if_pos g5] at e
                cases g6 : sgn B N (sp B N y.1) 99 with
                | error e' => rw [g6] at e; cases e
                | ok z =>
                  rw [g6] at e
                  injection e with e
                  obtain ⟨f1, f2⟩ := sgs_f (m := 5) (by decide) s.2.2.1 y g4
                  have zb := sgn_b (m := 99) (by decide) g6
                  rw [← e]
                  show dFt s.2.2.1 (upd y.2 (24 + s.2.2.2.1.length) z.1)
                  obtain ⟨q1, q2, q3, q4, q5⟩ := d1
                  refine ⟨fun c j hc hj => ?_, fun c hc => ?_, fun j hj => ?_, ?_, fun c hc => ?_⟩
                  · rw [pk_un (by omega)]
                    by_cases g : c = s.2.2.2.1.length ∧ j < s.2.2.1
                    · have := f2 j g.2
                      rw [← g.1] at this
                      exact ⟨this, fun q => by omega⟩
                    · rw [f1 _ (by omega)]
                      exact q1 c j hc hj
                  · by_cases g : c = s.2.2.2.1.length
                    · rw [g, pk_us]; exact zb
                    · rw [pk_un (by omega), f1 _ (by omega)]; exact q2 c hc
                  · rw [pk_un (by omega), f1 _ (by omega)]; exact q3 j hj
                  · rw [pk_un (by omega), f1 _ (by omega)]; exact q4
                  · rw [pk_un (by omega), f1 _ (by omega)]; exact q5 c hc
              · rw [if_neg g5] at e; cases e
    · rw [if_neg k2] at e
      by_cases k3 : isK B N s.1 wNeed = true
      · rw [if_pos k3] at e
        unfold needL at e
        by_cases g : s.2.2.2.2.2.1 = true
        · rw [if_pos g] at e; cases e
        · rw [if_neg g] at e
          cases g4 : sgs B N 32 20 (sp B N s.1) s.2.1 s.2.2.1 with
          | error e' => rw [g4] at e; cases e
          | ok y =>
            rw [g4] at e
            injection e with e
            obtain ⟨f1, f2⟩ := sgs_f (m := 20) (by decide) s.2.2.1 y g4
            rw [← e]
            show dFt s.2.2.1 y.2
            obtain ⟨q1, q2, q3, q4, q5⟩ := d1
            refine ⟨fun c j hc hj => ?_, fun c hc => ?_, fun j hj => ?_, ?_, fun c hc => ?_⟩
            · rw [f1 _ (by omega)]; exact q1 c j hc hj
            · rw [f1 _ (by omega)]; exact q2 c hc
            · by_cases g : j < s.2.2.1
              · exact ⟨f2 j g, fun q => by omega⟩
              · rw [f1 _ (by omega)]; exact q3 j hj
            · rw [f1 _ (by omega)]; exact q4
            · rw [f1 _ (by omega)]; exact q5 c hc
      · rw [if_neg k3] at e
        by_cases k4 : isK B N s.1 wSteps = true
        · rw [if_pos k4] at e
          unfold stepL at e
          by_cases g : s.2.2.2.2.2.2 = true
          · rw [if_pos g] at e; cases e
          · rw [if_neg g] at e
            cases g2 : nIn B N (sp B N s.1) 1 12 with
            | error e' => rw [g2] at e; cases e
            | ok y =>
              rw [g2] at e
              injection e with e
              obtain ⟨-, -, l3, l4⟩ := nIn_sp g2
              obtain ⟨v, hv, ev⟩ := nI_of2 (M := 12) (n := 12) rfl (fun g => absurd (Int32.lt_of_le_of_lt l3 g) (by decide)) l4
              rw [← e]
              show dFt s.2.2.1 (upd s.2.1 35 y.1)
              obtain ⟨q1, q2, q3, q4, q5⟩ := d1
              refine ⟨fun c j hc hj => ?_, fun c hc => ?_, fun j hj => ?_, ?_, fun c hc => ?_⟩
              · rw [pk_un (by omega)]; exact q1 c j hc hj
              · rw [pk_un (by omega)]; exact q2 c hc
              · rw [pk_un (by omega)]; exact q3 j hj
              · exact ⟨v, hv, by rw [pk_us]; exact ev⟩
              · rw [pk_un (by omega)]; exact q5 c hc
        · rw [if_neg k4] at e; cases e
theorem lineL_dG {B : Nat → Int32} {N : Nat} {s x : PSt} (hd : dS B N s) (hs : dG s) (e : lineL B N s = .ok x) : dG x := by
  have ds := (lineL_sp hd e).1
  unfold lineL at e
  cases g : bodL B N s with
  | error e' => rw [g] at e; cases e
  | ok y =>
    rw [g] at e
    dsimp only at e
    have b := bodL_dFt hs g
    by_cases q : kd B N y.1 = 3
    · rw [if_pos q] at e
      injection e with e
      rw [← e] at ds ⊢
      exact ⟨b, ds.2.2.2.1, ds.2.2.1, fun z => absurd (show true = false from z) (by decide)⟩
    · rw [if_neg q] at e; cases e
theorem prgL_dG {B : Nat → Int32} {N : Nat} : ∀ k s x, dS B N s → dG s → prgL B N k s = .ok x → dG x := by
  intro k
  induction k with
  | zero =>
    intro s x _ hs e
    rw [prgL] at e
    injection e with e
    rw [← e]
    exact hs
  | succ k ih =>
    intro s x hd hs e
    rw [prgL] at e
    by_cases g : kd B N s.1 = 0
    · rw [if_pos g] at e
      injection e with e
      rw [← e]
      exact hs
    · rw [if_neg g] at e
      cases g2 : lineL B N s with
      | error e' => rw [g2] at e; cases e
      | ok y =>
        rw [g2] at e
        exact ih y x (lineL_sp hd g2).1 (lineL_dG hd hs g2) e
theorem prog_dFt {B : Nat → Int32} {N : Nat} {x : PSt} (e : prog B N = .ok x) : dFt x.2.2.1 x.2.1 :=
  (prgL_dG (N + 1) s0L x ⟨Nat.zero_le _, Nat.le_refl _, by decide, by decide, fun w hw => absurd hw List.not_mem_nil⟩ ⟨dFt_0 _, by decide, by decide, fun _ => rfl⟩ e).1
theorem dFt_OF {r n : Nat} {f g : Nat → Int32} (hn : n ≤ 8) (d : dFt r f) (e : ∀ k, k < 44 → g k = f k) (z : ∀ k, 44 ≤ k → g k = 0) : OF r n g := by
  obtain ⟨q1, q2, q3, q4, q5⟩ := d
  have z0 : (0 : Int32).toInt = 0 := rfl
  refine ⟨fun c j hc hj => ?_, fun j hj => ?_, fun c hc => ?_, fun j hr hj => ⟨?_, fun c hc => ?_⟩, fun c hc => ?_, ?_, z⟩
  · rw [e _ (by omega)]; exact (q1 c j (by omega) hj).1
  · rw [e _ (by omega)]; exact (q3 j hj).1
  · rw [e _ (by omega)]; exact q2 c (by omega)
  · rw [e _ (by omega)]; exact (q3 j hj).2 hr
  · rw [e _ (by omega)]; exact (q1 c j hc hj).2 hr
  · rw [e _ (by omega), q5 c (by omega), z0]; omega
  · rw [e _ (by omega)]; exact q4
theorem JC_tx {f : Nat → Int32} {r n : Nat} {gg : Nat → Nat → Int32} {fi A U : Nat} {K : KT} {s : Nat} {tm : Int32} {N : Nat} {B : Nat → Int32} {e1 e2 : Int32} {bx : Nat → Option (Nat → Int32)} {N' : Nat} {B' : Nat → Int32} {e1' e2' : Int32} {b ρ a : Nat} {as : List Nat} {h' : Hp} (k : JC f r n gg fi A U K s tm N B e1 e2 bx b ρ a h) (x : Fx as [] h h') (h1 : ∀ y ∈ as, y ∈ [17, 18, 23, 24, 25, 26, 27]) (eN : gI h' 17 1 = nI N') (eB : ∀ i, i < N' → gI h' 18 i = B' i) (f1 : gI h' 23 6 = e1') (f2 : gI h' 23 7 = e2') : JC f r n gg fi A U K s tm N' B' e1' e2' bx b ρ a h' := by
  have nA : ∀ y, y ∉ [17, 18, 23, 24, 25, 26, 27] → y ∉ as := fun y hy q => hy (h1 y q)
  obtain ⟨k1, k2, k3, k4, q1, q2, q3, q4, q5, q6, q7, q8, q9⟩ := k
  have hn := k1.2.1.2.2.2.2.2
  refine ⟨CN_fx k1 x (nA _ (by decide)) (nA _ (by decide)), by rw [x.2.2.1]; exact k2, by rw [fx_I x (nA _ (by decide))]; exact k3, KA_fx k4 x (nA _ (by decide)) (nA _ (by decide)) (nA _ (by decide)) (nA _ (by decide)) (by decide) (by decide) (nA _ (by decide)) (nA _ (by decide)) (nA _ (by decide)) (nA _ (by decide)) (nA _ (by decide)) (nA _ (by decide)) (nA _ (by decide)) (nA _ (by decide)) (nA _ (by decide)) (by decide) (by decide) (by decide) (by decide), AR_fx hn q1 x (nA _ (by decide)) (nA _ (by decide)) (nA _ (by decide)) (nA _ (by decide)) (nA _ (by decide)), CTd_fx q2 x (nA _ (by decide)) (nA _ (by decide)), KX_fx q3 x (nA _ (by decide)) (nA _ (by decide)) (nA _ (by decide)) (nA _ (by decide)), by rw [fx_I x (nA _ (by decide))]; exact q4, eN, eB, f1, f2, fun β hβ => ?_⟩
  match β, hβ with
  | 0, _ => exact BXx_eq (q9 0 (by decide)) (fx_I x (nA _ (by decide))) (fx_I x (nA _ (by decide))) (fx_I x (nA _ (by decide)))
  | 1, _ => exact BXx_eq (q9 1 (by decide)) (fx_I x (nA _ (by decide))) (fx_I x (nA _ (by decide))) (fx_I x (nA _ (by decide)))
theorem JM_tx {f : Nat → Int32} {r n : Nat} {gg : Nat → Nat → Int32} {fi A U : Nat} {K : KT} {s : Nat} {tm : Int32} {N : Nat} {B : Nat → Int32} {e1 e2 : Int32} {bx : Nat → Option (Nat → Int32)} {N' : Nat} {B' : Nat → Int32} {e1' e2' : Int32} {as fs js gs : List Nat} {h' : Hp} (k : JM f r n gg fi A U K s tm N B e1 e2 bx h) (x : Fr as fs js gs h h') (h1 : ∀ y ∈ as, y ∈ [82, 83]) (h2 : ∀ y ∈ fs, y ∈ [1, 2, 3, 4, 5, 6, 7, 8, 9, 10, 15, 16, 19, 20, 21]) (h3 : ∀ y ∈ js, y ∈ [85]) (eN : gI h' 81 1 = nI N') (eB : ∀ i, i < N' → gI h' 82 i = B' i) (f1 : gI h' 81 9 = e1') (f2 : gI h' 81 10 = e2') : JM f r n gg fi A U K s tm N' B' e1' e2' bx h' := by
  have nA : ∀ y, y ∉ [82, 83] → y ∉ as := fun y hy q => hy (h1 y q)
  have nF : ∀ y, y ∉ [1, 2, 3, 4, 5, 6, 7, 8, 9, 10, 15, 16, 19, 20, 21] → y ∉ fs := fun y hy q => hy (h2 y q)
  have nJ : ∀ y, y ∉ [85] → y ∉ js := fun y hy q => hy (h3 y q)
  obtain ⟨k1, k2, k3, k4, k5, k6, k7, k8, k9, k10, k11, k12, k13, k14⟩ := k
  refine ⟨fr_Mrc x (nA _ (by decide)) (nF _ (by decide)) (nF _ (by decide)) k1, by rw [fr_I x (x := 86) (nA _ (by decide)) (by decide)]; exact k2, SV_fr k3 x (nA _ (by decide)) (nA _ (by decide)) (nA _ (by decide)) (nA _ (by decide)) (nA _ (by decide)) (nJ _ (by decide)) (nF _ (by decide)) (nF _ (by decide)) (nF _ (by decide)) (nF _ (by decide)), by rw [fr_F x (nA _ (by decide)) (nF _ (by decide))]; exact k4, by rw [fr_F x (nA _ (by decide)) (nF _ (by decide))]; exact k5, ?_, KS_fr x (nA _ (by decide)) (nF _ (by decide)) (nA _ (by decide)) k7, by rw [kn_fr x (nA _ (by decide)) (nA _ (by decide)) (nA _ (by decide)) (nA _ (by decide)) (nA _ (by decide)) (nA _ (by decide))]; exact k8, by rw [fr_F x (nA _ (by decide)) (nF _ (by decide))]; exact k9, eN, eB, f1, f2, fun β hβ => BXm_eq (k14 β hβ) (fr_I x (nA _ (by decide)) (by decide)) (fr_I x (nA _ (by decide)) (by decide))⟩
  unfold PA
  rw [fr_I x (x := 87) (nA _ (by decide)) (by decide)]
  exact k6
theorem c_feed {c ρ : Nat} {x y z u v : Int32} {R : Int32 → Hp → Prop} (hc : c < 2 ^ 30) (j : JJ c ρ h) (hR : ∀ q h1, gK h1 81 = 12 → (∀ S : Int32 → Hp → Prop, (∀ h2, JJ (c + 8) ρ h2 → S q h2) → w_M_feed 81 x y z u v h1 S) → R q h1) : w_X_feed 16 x y z u v h R := by
  obtain ⟨f, r, n, gg, fi, A, U, K, s, tm, N, B, e1, e2, bx, b, a, hb, jc, jm, jp⟩ := j
  have hA := jA jc
  have hb1 := jc.2.2.1
  have ar := jc.2.2.2.2.1
  have hn8 := jc.1.2.1.2.2.2.2.2
  have hr3 := jc.1.2.1.2.2.2.2.1
  have mA := jm.2.2.2.1
  have jr := jc.2.2.2.2
  have xN : gI h 17 1 = nI N := jr.2.2.2.2.1
  have xB : ∀ i, i < N → gI h 18 i = B i := jr.2.2.2.2.2.1
  have x6 : gI h 23 6 = e1 := jr.2.2.2.2.2.2.1
  have x7 : gI h 23 7 = e2 := jr.2.2.2.2.2.2.2.1
  have mN : gI h 81 1 = nI N := jm.2.2.2.2.2.2.2.2.2.1
  have mB : ∀ i, i < N → gI h 82 i = B i := jm.2.2.2.2.2.2.2.2.2.2.1
  have m9 : gI h 81 9 = e1 := jm.2.2.2.2.2.2.2.2.2.2.2.1
  have m10 : gI h 81 10 = e2 := jm.2.2.2.2.2.2.2.2.2.2.2.2.1
  have hN7 := jp.2.2.2.2.1
  have hB0 := jp.2.2.2.2.2
  refine t_X_feed jc.1.1 xN hN7 xB (fun big => hR _ h (M_K jm.1.1) (fun S hS => t_M_feed jm.1.1 mN hN7 mB (fun _ => hS h ⟨f, r, n, gg, fi, A, U, K, s, tm, N, B, e1, e2, bx, b, a, by omega, jc, jm, jp⟩) (fun h2 le _ _ _ => absurd le (by omega)))) (fun h1 le x1 eN eB => ?_)
  have jm1 := JM_X jm (fz_C x1 (by decide) (by decide))
  have jc1 := JC_tx (e1' := e1) (e2' := e2) jc x1 (by decide) eN eB (by rw [fx_I x1 (by decide)]; exact x6) (by rw [fx_I x1 (by decide)]; exact x7)
  refine hR _ h1 (M_K jm1.1.1) (fun S hS => t_M_feed jm1.1.1 jm1.2.2.2.2.2.2.2.2.2.1 hN7 jm1.2.2.2.2.2.2.2.2.2.2.1 (fun big => absurd big (by omega)) (fun h2 _ x2 eN2 eB2 => ?_))
  exact hS h2 ⟨f, r, n, gg, fi, A, U, K, s, tm, N + 20, fd20 B N x y z u v, e1, e2, bx, b, a, by omega, JC_M jc1 (fx_M x2 (by decide) (by decide)), JM_tx jm1 x2 (by decide) (by decide) (by decide) eN2 eB2 (by rw [fr_F x2 (by decide) (by decide)]; exact jm1.2.2.2.2.2.2.2.2.2.2.2.1) (by rw [fr_F x2 (by decide) (by decide)]; exact jm1.2.2.2.2.2.2.2.2.2.2.2.2.1), ⟨jp.1, jp.2.1, jp.2.2.1, jp.2.2.2.1, le, fd20_nn hB0⟩⟩
theorem c_end {c ρ : Nat} {x : Int32} {R : Int32 → Hp → Prop} (hc : c < 2 ^ 30) (j : JJ c ρ h) (hR : ∀ q h1, gK h1 81 = 12 → (∀ S : Int32 → Hp → Prop, (∀ h2, JJ (c + 8) ρ h2 → S q h2) → w_M_end 81 x h1 S) → R q h1) : w_X_end 16 x h R := by
  obtain ⟨f, r, n, gg, fi, A, U, K, s, tm, N, B, e1, e2, bx, b, a, hb, jc, jm, jp⟩ := j
  have hA := jA jc
  have hb1 := jc.2.2.1
  have ar := jc.2.2.2.2.1
  have hn8 := jc.1.2.1.2.2.2.2.2
  have hr3 := jc.1.2.1.2.2.2.2.1
  have mA := jm.2.2.2.1
  have jr := jc.2.2.2.2
  have xN : gI h 17 1 = nI N := jr.2.2.2.2.1
  have xB : ∀ i, i < N → gI h 18 i = B i := jr.2.2.2.2.2.1
  have x6 : gI h 23 6 = e1 := jr.2.2.2.2.2.2.1
  have x7 : gI h 23 7 = e2 := jr.2.2.2.2.2.2.2.1
  have mN : gI h 81 1 = nI N := jm.2.2.2.2.2.2.2.2.2.1
  have mB : ∀ i, i < N → gI h 82 i = B i := jm.2.2.2.2.2.2.2.2.2.2.1
  have m9 : gI h 81 9 = e1 := jm.2.2.2.2.2.2.2.2.2.2.2.1
  have m10 : gI h 81 10 = e2 := jm.2.2.2.2.2.2.2.2.2.2.2.2.1
  have hN7 := jp.2.2.2.2.1
  have hB0 := jp.2.2.2.2.2
  have ok : ∀ q, q ≤ N → x = nI q → (decide (0 ≤ x) && decide (x ≤ nI N)) = false → False := fun q hq e z => by
    rw [e, in_ok (m := N) rfl (by omega) hq] at z
    cases z
  refine t_X_end jc.1.1 xN hN7 (fun iv => hR _ h (M_K jm.1.1) (fun S hS => t_M_end jm.1.1 mN hN7 (fun _ => hS h ⟨f, r, n, gg, fi, A, U, K, s, tm, N, B, e1, e2, bx, b, a, by omega, jc, jm, jp⟩) (fun q hq e => (ok q hq e iv).elim))) (fun q hq e => ?_)
  have x1 : Fx [17] [] h (sI h 17 1 x) := fx_sI _ _ (by simp)
  have jm1 := JM_X jm (fz_C x1 (by decide) (by decide))
  have jc1 := JC_tx (N' := q) (B' := B) (e1' := e1) (e2' := e2) jc x1 (by decide) (by rw [gI_sI, if_pos ⟨rfl, rfl⟩]; exact e) (fun i hi => by rw [fx_I x1 (by decide)]; exact xB i (by omega)) (by rw [fx_I x1 (by decide)]; exact x6) (by rw [fx_I x1 (by decide)]; exact x7)
  refine hR _ _ (M_K jm1.1.1) (fun S hS => t_M_end jm1.1.1 jm1.2.2.2.2.2.2.2.2.2.1 hN7 (fun iv => (ok q hq e iv).elim) (fun q2 hq2 e2' => ?_))
  have x2 : Fr [] [1] [] [] (sI h 17 1 x) (sI (sI h 17 1 x) 81 1 x) := fr_sI _ _ (Or.inr ⟨rfl, by simp⟩)
  exact hS _ ⟨f, r, n, gg, fi, A, U, K, s, tm, q, B, e1, e2, bx, b, a, by omega, JC_M jc1 (fx_M x2 (by decide) (by decide)), JM_tx jm1 x2 (by decide) (by decide) (by decide) (by rw [gI_sI, if_pos ⟨rfl, rfl⟩]; exact e) (fun i hi => by rw [fr_I x2 (x := 82) (by decide) (by decide)]; exact jm1.2.2.2.2.2.2.2.2.2.2.1 i (by omega)) (by rw [fr_F x2 (by decide) (by decide)]; exact jm1.2.2.2.2.2.2.2.2.2.2.2.1) (by rw [fr_F x2 (by decide) (by decide)]; exact jm1.2.2.2.2.2.2.2.2.2.2.2.2.1), ⟨jp.1, jp.2.1, jp.2.2.1, jp.2.2.2.1, by omega, fun i hi => hB0 i (by omega)⟩⟩
theorem c_program {c ρ : Nat} {R : Int32 → Hp → Prop} (hc : c < 2 ^ 30) (j : JJ c ρ h) (hR : ∀ q h1, gK h1 81 = 12 → (∀ S : Int32 → Hp → Prop, (∀ h2, JJ (c + 8) ρ h2 → S q h2) → w_M_program 81  h1 S) → R q h1) : w_X_program 16  h R := by
  obtain ⟨f, r, n, gg, fi, A, U, K, s, tm, N, B, e1, e2, bx, b, a, hb, jc, jm, jp⟩ := j
  have hA := jA jc
  have hb1 := jc.2.2.1
  have ar := jc.2.2.2.2.1
  have hn8 := jc.1.2.1.2.2.2.2.2
  have hr3 := jc.1.2.1.2.2.2.2.1
  have mA := jm.2.2.2.1
  have jr := jc.2.2.2.2
  have xN : gI h 17 1 = nI N := jr.2.2.2.2.1
  have xB : ∀ i, i < N → gI h 18 i = B i := jr.2.2.2.2.2.1
  have x6 : gI h 23 6 = e1 := jr.2.2.2.2.2.2.1
  have x7 : gI h 23 7 = e2 := jr.2.2.2.2.2.2.2.1
  have mN : gI h 81 1 = nI N := jm.2.2.2.2.2.2.2.2.2.1
  have mB : ∀ i, i < N → gI h 82 i = B i := jm.2.2.2.2.2.2.2.2.2.2.1
  have m9 : gI h 81 9 = e1 := jm.2.2.2.2.2.2.2.2.2.2.2.1
  have m10 : gI h 81 10 = e2 := jm.2.2.2.2.2.2.2.2.2.2.2.2.1
  have hN7 := jp.2.2.2.2.1
  have hB0 := jp.2.2.2.2.2
  have o : TY B N h := ⟨hN7, xN, xB⟩
  refine t_X_program jc.1.1 o (fun e h1 he x1 q17 q6 q7 => ?_) (fun t h1 he dt x1 q17 q6 q7 q20 q22 qb q191 q192 q211 q212 q213 q304 q305 q306 q716 q71 q290 q291 => ?_)
  · have jm1 := JM_X jm (fz_C x1 (by decide) (by decide))
    have jc1 := JC_tx (N' := 0) (B' := B) jc x1 (by decide) q17 (fun i hi => absurd hi (Nat.not_lt_zero _)) q6 q7
    refine hR _ h1 (M_K jm1.1.1) (fun S hS => t_M_program2 (B := B) jm1.1.1 hN7 jm1.2.2.2.2.2.2.2.2.2.1 (fun i hi => ⟨jm1.2.2.2.2.2.2.2.2.2.2.1 i hi, hB0 i hi⟩) (fun t h2 he2 _ _ _ _ _ _ _ => ?_) (fun e' h2 he2 x2 p1 p9 p10 => ?_))
    · rw [he] at he2
      cases he2
    · rw [he] at he2
      injection he2 with he2
      subst he2
      exact hS h2 ⟨f, r, n, gg, fi, A, U, K, s, tm, 0, B, nI e.1, nI e.2, bx, b, a, by omega, JC_M jc1 (fx_M x2 (by decide) (by decide)), JM_tx jm1 x2 (by decide) (by decide) (by decide) p1 (fun i hi => absurd hi (Nat.not_lt_zero _)) p9 p10, ⟨jp.1, jp.2.1, jp.2.2.1, jp.2.2.2.1, Nat.zero_le _, fun i hi => absurd hi (Nat.not_lt_zero _)⟩⟩
  · have jm1 := JM_X jm (fz_C x1 (by decide) (by decide))
    have dfd := prog_dFt he
    have hn' := dt.2.2.2.1
    have jt : CTd K.1 r n h := jr.2.1
    have z22 : ∀ k, 44 ≤ k → gI h1 22 k = 0 := fun k hk => by rw [(qb k hk).2, jc.1.2.2.1]; exact jp.1.2.2.2.2.2.2 k hk
    have o1 : OF t.2.2.1 t.2.2.2.1.length (gI h1 22) := dFt_OF hn' dfd q22 z22
    have m1 : XS h1 := fx_XS x1 jc.1.1
    have f20 : FB (gI h1 20) t.2.2.2.1.length := fun c j hc hj => by rw [q20 _ (by omega)]; exact (dfd.1 c j (by omega) hj).1
    have g20 : ZB (gI h1 20) t.2.2.1 := fun j hr hj => ⟨by rw [q20 _ (by omega)]; exact (dfd.2.2.1 j hj).2 hr, fun c hc => by rw [q20 _ (by omega)]; exact (dfd.1 c j hc hj).2 hr⟩
    have jc1 : JC (gI h1 22) t.2.2.1 t.2.2.2.1.length (fun _ => gI h1 22) 0 0 0 (gI h1 20, K.2.1, K.2.2.1, K.2.2.2.1, K.2.2.2.2.1, K.2.2.2.2.2) 0 tm 0 B 0 (-1) (fun _ => none) (b + 1) ρ a h1 := by
      obtain ⟨k1, k2, k3, k4, w1, w2, w3, w4, w5, w6, w7, w8, w9⟩ := jc
      refine ⟨⟨m1, ⟨CO_21 m1, q211, q212, dt.2.1, dt.2.2.1, hn'⟩, rfl, o1.1, o1.2.1, o1.2.2.1, o1.2.2.2.1, by rw [x1.2.2.1]; exact k1.2.2.2.2.2.2.2⟩, by rw [x1.2.2.1]; exact k2, by rw [q213, k3, nI_1], KA_up (KA_fx k4 x1 (by decide) (by decide) (by decide) (by decide) (by decide) (by decide) (by decide) (by decide) (by decide) (by decide) (by decide) (by decide) (by decide) (by decide) (by decide) (by decide) (by decide) (by decide) (by decide)) (Nat.lt_succ_self _) o1.2.2.2.2.2.1, ⟨q304, by decide, q305, q306, by decide, fun k hk => absurd hk (by omega)⟩, ⟨m1, ⟨CO_19 m1, q191, q192, dt.2.1, dt.2.2.1, hn'⟩, rfl, f20, g20, by rw [x1.2.2.1]; exact k1.2.2.2.2.2.2.2⟩, ⟨q716, by decide, fun j hj => absurd hj (Nat.not_lt_zero _)⟩, by rw [q71 7 (by decide)]; exact w4, q17, fun i hi => absurd hi (Nat.not_lt_zero _), q6, q7, fun β hβ => ?_⟩
      match β, hβ with
      | 0, _ => exact q290
      | 1, _ => exact q291
    refine hR _ h1 (M_K jm1.1.1) (fun S hS => t_M_program2 (B := B) jm1.1.1 hN7 jm1.2.2.2.2.2.2.2.2.2.1 (fun i hi => ⟨jm1.2.2.2.2.2.2.2.2.2.2.1 i hi, hB0 i hi⟩) (fun t2 h2 he2 _ x2 to p1 p9 p10 pb => ?_) (fun e' h2 he2 _ _ _ _ => ?_))
    · rw [he] at he2
      injection he2 with he2
      subst he2
      obtain ⟨t84, t86, t17, t18, t24, t25, t73, t41, t119, t119'⟩ := to
      have kn0 : kn h = K := jm.2.2.2.2.2.2.2.1
      have h84 : gI h 84 = K.1 := congrArg (fun K : KT => K.1) kn0
      have e86 : gI h2 86 = gI h1 22 := by
        funext q
        by_cases g : q < 44
        · rw [t86 q g, q22 q g]
        · rw [(pb q (by omega)).2, jm1.2.1, z22 q (by omega)]
          exact jp.1.2.2.2.2.2.2 q (by omega)
      have e84 : gI h2 84 = gI h1 20 := by
        funext q
        by_cases g : q < 44
        · rw [t84 q g, q20 q g]
        · rw [(pb q (by omega)).1, (qb q (by omega)).1, fx_I x1 (x := 84) (by decide), h84, jt.2.2.1]
      have jm2 : JM (gI h1 22) t.2.2.1 t.2.2.2.1.length (fun _ => gI h1 22) 0 0 0 (gI h1 20, K.2.1, K.2.2.1, K.2.2.2.1, K.2.2.2.2.1, K.2.2.2.2.2) 0 tm 0 B 0 (-1) (fun _ => none) h2 := by
        have kn1 : kn h1 = K := jm1.2.2.2.2.2.2.2.1
        have I := fun y (h1 : y ∉ [83, 84, 86, 119]) (h2 : y ≠ 81) => fr_I x2 (x := y) h1 h2
        refine ⟨⟨fr_MS x2 jm1.1.1, t17, t18, dt.2.1, dt.2.2.1, hn'⟩, e86, Or.inl t41, t24, t25, fun q i hq => absurd hq (by omega), ⟨t73, by decide, fun q hq => absurd hq (Nat.not_lt_zero _)⟩, ?_, by rw [fr_F x2 (by decide) (by decide)]; exact jm1.2.2.2.2.2.2.2.2.1, p1, fun i hi => absurd hi (Nat.not_lt_zero _), p9, p10, fun β hβ => ?_⟩
        · unfold kn at kn1 ⊢
          rw [e84, I 111 (by decide) (by decide), I 112 (by decide) (by decide), I 113 (by decide) (by decide), I 114 (by decide) (by decide), I 115 (by decide) (by decide), ← kn1]
        · match β, hβ with
          | 0, _ => exact t119
          | 1, _ => exact t119'
      exact hS h2 ⟨_, _, _, _, _, _, _, _, _, _, _, _, _, _, _, b + 1, a, by omega, JC_M jc1 (fx_M x2 (by decide) (by decide)), jm2, ⟨o1, rfl, fun _ _ => o1, fun β c hc => (by cases hc), Nat.zero_le _, fun i hi => absurd hi (Nat.not_lt_zero _)⟩⟩
    · rw [he] at he2
      cases he2
