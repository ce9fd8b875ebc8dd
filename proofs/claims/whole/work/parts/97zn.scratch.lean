/-! Class and reference: what is only worked with -/
variable {h : Hp}
abbrev SCA : List Nat := [83, 85, 88, 89, 90, 91, 92, 98, 99, 100, 101, 102, 103, 104, 105, 106, 107, 108, 109, 110, 116, 117]
abbrev SCS : List Nat := [83, 85, 88, 89, 90, 91, 92, 98, 99, 100, 101, 102, 103, 104, 105, 106, 107, 108, 109, 110, 116, 117, 93, 94, 95, 96]
abbrev SFF : List Nat := [2, 3, 4, 5, 6, 7, 8, 15, 16, 19, 20, 21, 28, 29, 44, 56, 57, 58, 63, 64, 65, 66, 67]
abbrev SFS : List Nat := [2, 3, 4, 5, 6, 7, 8, 15, 16, 19, 20, 21, 28, 29, 44, 56, 57, 58, 63, 64, 65, 66, 67, 38, 39, 40, 41]
abbrev SJA : List Nat := [85, 100, 101, 102, 103, 104]
abbrev SJS : List Nat := [85, 100, 101, 102, 103, 104, 97]
abbrev SCX : List Nat := [35, 36, 37, 38, 39, 40, 41, 42, 43, 44, 45, 50, 51, 52, 53, 54, 55, 56, 57, 58, 59, 60, 61, 62, 63, 64, 65, 66, 67, 68, 69, 70, 75, 76]
abbrev SJX : List Nat := [42, 56, 57, 59]
set_option maxRecDepth 4000 in
theorem JM_frS {f : Nat → Int32} {r n : Nat} {gg : Nat → Nat → Int32} {fi A U : Nat} {K : KT} {s : Nat} {tm : Int32} {N : Nat} {B : Nat → Int32} {e1 e2 : Int32} {bx : Nat → Option (Nat → Int32)} {as fs js gs : List Nat} {h' : Hp} (k : JM f r n gg fi A U K s tm N B e1 e2 bx h) (x : Fr as fs js gs h h') (h1 : ∀ y ∈ as, y ∈ SCS) (h2 : ∀ y ∈ fs, y ∈ SFS) (sv : SV f r n h') : JM f r n gg fi A U K s tm N B e1 e2 bx h' := by
  have nA : ∀ y, y ∉ SCS → y ∉ as := fun y hy q => hy (h1 y q)
  have nF : ∀ y, y ∉ SFS → y ∉ fs := fun y hy q => hy (h2 y q)
  have n81 := nA 81 (by decide)
  have I : ∀ y, y ∉ SCS → y ≠ 81 → gI h' y = gI h y := fun y hy h8 => fr_I x (nA y hy) h8
  have F : ∀ y, y ∉ SFS → gI h' 81 y = gI h 81 y := fun y hy => fr_F x n81 (nF y hy)
  obtain ⟨k1, k2, k3, k4, k5, k6, k7, k8, k9, k10, k11, k12, k13, k14⟩ := k
  refine ⟨fr_Mrc x n81 (nF 17 (by decide)) (nF 18 (by decide)) k1, by rw [I 86 (by decide) (by decide)]; exact k2, sv, by rw [F 24 (by decide)]; exact k4, by rw [F 25 (by decide)]; exact k5, ?_, KS_fr x n81 (nF 73 (by decide)) (nA 111 (by decide)) k7, ?_, by rw [F 74 (by decide)]; exact k9, by rw [F 1 (by decide)]; exact k10, by rw [I 82 (by decide) (by decide)]; exact k11, by rw [F 9 (by decide)]; exact k12, by rw [F 10 (by decide)]; exact k13, fun β hβ => BXm_eq (k14 β hβ) (I 118 (by decide) (by decide)) (I 119 (by decide) (by decide))⟩
  · unfold PA
    rw [I 87 (by decide) (by decide)]
    exact k6
  · rw [kn_fr x (nA 84 (by decide)) (nA 111 (by decide)) (nA 112 (by decide)) (nA 113 (by decide)) (nA 114 (by decide)) (nA 115 (by decide))]
    exact k8
set_option maxRecDepth 4000 in
theorem JM_fr {f : Nat → Int32} {r n : Nat} {gg : Nat → Nat → Int32} {fi A U : Nat} {K : KT} {s : Nat} {tm : Int32} {N : Nat} {B : Nat → Int32} {e1 e2 : Int32} {bx : Nat → Option (Nat → Int32)} {as fs js gs : List Nat} {h' : Hp} (k : JM f r n gg fi A U K s tm N B e1 e2 bx h) (x : Fr as fs js gs h h') (h1 : ∀ y ∈ as, y ∈ SCA) (h2 : ∀ y ∈ fs, y ∈ SFF) (h3 : ∀ y ∈ js, y ∈ SJA) : JM f r n gg fi A U K s tm N B e1 e2 bx h' := by
  have nA : ∀ y, y ∉ SCA → y ∉ as := fun y hy q => hy (h1 y q)
  have nF : ∀ y, y ∉ SFF → y ∉ fs := fun y hy q => hy (h2 y q)
  have nJ : ∀ y, y ∉ SJA → y ∉ js := fun y hy q => hy (h3 y q)
  refine JM_frS k x (fun y hy => ?_) (fun y hy => ?_) (SV_fr k.2.2.1 x (nA 81 (by decide)) (nA 93 (by decide)) (nA 94 (by decide)) (nA 95 (by decide)) (nA 96 (by decide)) (nJ 97 (by decide)) (nF 38 (by decide)) (nF 39 (by decide)) (nF 40 (by decide)) (nF 41 (by decide)))
  · have : ∀ y ∈ SCA, y ∈ SCS := by decide
    exact this y (h1 y hy)
  · have : ∀ y ∈ SFF, y ∈ SFS := by decide
    exact this y (h2 y hy)
set_option maxRecDepth 4000 in
theorem JC_fx {f : Nat → Int32} {r n : Nat} {gg : Nat → Nat → Int32} {fi A U : Nat} {K : KT} {s : Nat} {tm : Int32} {N : Nat} {B : Nat → Int32} {e1 e2 : Int32} {bx : Nat → Option (Nat → Int32)} {b ρ a : Nat} {as js : List Nat} {h' : Hp} (k : JC f r n gg fi A U K s tm N B e1 e2 bx b ρ a h) (x : Fx as js h h') (h1 : ∀ y ∈ as, y ∈ SCX) (ka : KA f r n b ρ a h') : JC f r n gg fi A U K s tm N B e1 e2 bx b ρ a h' := by
  have nA : ∀ y, y ∉ SCX → y ∉ as := fun y hy q => hy (h1 y q)
  obtain ⟨k1, k2, k3, k4, k5⟩ := k
  have hn := k1.2.1.2.2.2.2.2
  exact ⟨CN_fx k1 x (nA _ (by decide)) (nA _ (by decide)), by rw [x.2.2.1]; exact k2, by rw [fx_I x (nA _ (by decide))]; exact k3, ka, JR_fx k5 x hn (nA _ (by decide)) (nA _ (by decide)) (nA _ (by decide)) (nA _ (by decide)) (nA _ (by decide)) (nA _ (by decide)) (nA _ (by decide)) (nA _ (by decide)) (nA _ (by decide)) (nA _ (by decide)) (nA _ (by decide)) (nA _ (by decide)) (nA _ (by decide)) (nA _ (by decide)) (nA _ (by decide)) (nA _ (by decide)) (nA _ (by decide)) (nA _ (by decide)) (nA _ (by decide))⟩
theorem JJ_mono {c c' ρ : Nat} (j : JJ c ρ h) (hc : c ≤ c') : JJ c' ρ h := by
  obtain ⟨f, r, n, gg, fi, A, U, K, s, tm, N, B, e1, e2, bx, b, a, hb, jc, jm, jp⟩ := j
  exact ⟨f, r, n, gg, fi, A, U, K, s, tm, N, B, e1, e2, bx, b, a, by omega, jc, jm, jp⟩
theorem KA_dn {f : Nat → Int32} {r n b ρ a : Nat} {as js : List Nat} {h' : Hp} (k : KA f r n b ρ a h) (x : Fx as js h h') (h1 : ∀ y ∈ as, y ∈ [35, 36, 37, 38, 39, 40, 41, 75, 76]) (hj : js = []) : KA f r n b ρ a h' := by
  have nA : ∀ y, y ∉ [35, 36, 37, 38, 39, 40, 41, 75, 76] → y ∉ as := fun y hy q => hy (h1 y q)
  subst hj
  exact KA_fx k x (nA _ (by decide)) (nA _ (by decide)) (nA _ (by decide)) (nA _ (by decide)) List.not_mem_nil List.not_mem_nil (nA _ (by decide)) (nA _ (by decide)) (nA _ (by decide)) (nA _ (by decide)) (nA _ (by decide)) (nA _ (by decide)) (nA _ (by decide)) (nA _ (by decide)) (nA _ (by decide)) List.not_mem_nil List.not_mem_nil List.not_mem_nil (fun y hy => absurd hy List.not_mem_nil)
theorem c_number {c ρ : Nat} {x y : Int32} {R : Int32 → Hp → Prop} (j : JJ c ρ h) (hR : ∀ q h1, gK h1 81 = 12 → (∀ S : Int32 → Hp → Prop, (∀ h2, JJ c ρ h2 → S q h2) → w_M_number 81 x y h1 S) → R q h1) : w_X_number 16 x y h R := by
  obtain ⟨f, r, n, gg, fi, A, U, K, s, tm, N, B, e1, e2, bx, b, a, hb, jc, jm, jp⟩ := j
  refine t_X_number jc.1 (hR _ h (M_K jm.1.1) (fun S hS => t_M_number jm.1 ?_))
  rw [jm.2.1]
  exact hS h ⟨f, r, n, gg, fi, A, U, K, s, tm, N, B, e1, e2, bx, b, a, hb, jc, jm, jp⟩
theorem c_gain {c ρ : Nat} {x : Int32} {R : Int32 → Hp → Prop} (j : JJ c ρ h) (hR : ∀ q h1, gK h1 81 = 12 → (∀ S : Int32 → Hp → Prop, (∀ h2, JJ c ρ h2 → S q h2) → w_M_gain 81 x h1 S) → R q h1) : w_X_gain 16 x h R := by
  obtain ⟨f, r, n, gg, fi, A, U, K, s, tm, N, B, e1, e2, bx, b, a, hb, jc, jm, jp⟩ := j
  refine t_X_gain jc.1 (hR _ h (M_K jm.1.1) (fun S hS => t_M_gain jm.1 ?_))
  rw [jm.2.1]
  exact hS h ⟨f, r, n, gg, fi, A, U, K, s, tm, N, B, e1, e2, bx, b, a, hb, jc, jm, jp⟩
theorem c_need {c ρ : Nat} {x : Int32} {R : Int32 → Hp → Prop} (j : JJ c ρ h) (hR : ∀ q h1, gK h1 81 = 12 → (∀ S : Int32 → Hp → Prop, (∀ h2, JJ c ρ h2 → S q h2) → w_M_need 81 x h1 S) → R q h1) : w_X_need 16 x h R := by
  obtain ⟨f, r, n, gg, fi, A, U, K, s, tm, N, B, e1, e2, bx, b, a, hb, jc, jm, jp⟩ := j
  refine t_X_need jc.1 (hR _ h (M_K jm.1.1) (fun S hS => t_M_need jm.1 ?_))
  rw [jm.2.1]
  exact hS h ⟨f, r, n, gg, fi, A, U, K, s, tm, N, B, e1, e2, bx, b, a, hb, jc, jm, jp⟩
theorem c_held {c ρ : Nat} {x : Int32} {R : Int32 → Hp → Prop} (j : JJ c ρ h) (hR : ∀ q h1, gK h1 81 = 12 → (∀ S : Int32 → Hp → Prop, (∀ h2, JJ c ρ h2 → S q h2) → w_M_held 81 x h1 S) → R q h1) : w_X_held 16 x h R := by
  obtain ⟨f, r, n, gg, fi, A, U, K, s, tm, N, B, e1, e2, bx, b, a, hb, jc, jm, jp⟩ := j
  refine t_X_held jc.1 (hR _ h (M_K jm.1.1) (fun S hS => t_M_held jm.1 ?_))
  rw [jm.2.1]
  exact hS h ⟨f, r, n, gg, fi, A, U, K, s, tm, N, B, e1, e2, bx, b, a, hb, jc, jm, jp⟩
theorem c_holding {c ρ : Nat} {x : Int32} {R : Int32 → Hp → Prop} (j : JJ c ρ h) (hR : ∀ q h1, gK h1 81 = 12 → (∀ S : Int32 → Hp → Prop, (∀ h2, JJ c ρ h2 → S q h2) → w_M_holding 81 x h1 S) → R q h1) : w_X_holding 16 x h R := by
  obtain ⟨f, r, n, gg, fi, A, U, K, s, tm, N, B, e1, e2, bx, b, a, hb, jc, jm, jp⟩ := j
  refine t_X_holding jc.1 (fun h1 x1 => ?_)
  have jm1 := JM_X jm (fz_C x1 (by decide) (by decide))
  have jc1 := JC_fx jc x1 (by decide) (KA_dn jc.2.2.2.1 x1 (by decide) rfl)
  refine hR _ h1 (M_K jm1.1.1) (fun S hS => t_M_holding jm1.1 ?_)
  rw [jm1.2.1]
  exact hS h1 ⟨f, r, n, gg, fi, A, U, K, s, tm, N, B, e1, e2, bx, b, a, hb, jc1, jm1, jp⟩
theorem c_fewest {c ρ : Nat} {R : Int32 → Hp → Prop} (j : JJ c ρ h) (hR : ∀ q h1, gK h1 81 = 12 → (∀ S : Int32 → Hp → Prop, (∀ h2, JJ c ρ h2 → S q h2) → w_M_fewest 81  h1 S) → R q h1) : w_X_fewest 16  h R := by
  obtain ⟨f, r, n, gg, fi, A, U, K, s, tm, N, B, e1, e2, bx, b, a, hb, jc, jm, jp⟩ := j
  refine t_X_fewest jc.1 (fun h1 x1 => ?_)
  have jm1 := JM_X jm (fz_C x1 (by decide) (by decide))
  have jc1 := JC_fx jc x1 (by decide) (KA_dn jc.2.2.2.1 x1 (by decide) rfl)
  refine hR _ h1 (M_K jm1.1.1) (fun S hS => t_M_fewest jm1.1 (fun f2 => ?_))
  rw [jm1.2.1]
  have x2 : Fr [88] [] [] [] h1 (sA h1 88 f2) := fr_sA _ _ (by simp)
  exact hS _ ⟨f, r, n, gg, fi, A, U, K, s, tm, N, B, e1, e2, bx, b, a, hb, JC_M jc1 (fx_M x2 (by decide) (by decide)), JM_fr jm1 x2 (by decide) (by decide) (by decide), jp⟩
theorem c_fault {c ρ : Nat} {x : Int32} {R : Int32 → Hp → Prop} (j : JJ c ρ h) (hR : ∀ q h1, gK h1 81 = 12 → (∀ S : Int32 → Hp → Prop, (∀ h2, JJ c ρ h2 → S q h2) → w_M_fault 81 x h1 S) → R q h1) : w_X_fault 16 x h R := by
  obtain ⟨f, r, n, gg, fi, A, U, K, s, tm, N, B, e1, e2, bx, b, a, hb, jc, jm, jp⟩ := j
  have q7 : gI h 23 6 = e1 := jc.2.2.2.2.2.2.2.2.2.2.1
  have q8 : gI h 23 7 = e2 := jc.2.2.2.2.2.2.2.2.2.2.2.1
  refine t_X_fault jc.1.1 (hR _ h (M_K jm.1.1) (fun S hS => t_M_fault jm.1.1 ?_))
  have jm0 := jm
  obtain ⟨-, -, -, -, -, -, -, -, -, -, -, p12, p13, -⟩ := jm0
  rw [p12, p13, ← q7, ← q8]
  exact hS h ⟨f, r, n, gg, fi, A, U, K, s, tm, N, B, e1, e2, bx, b, a, hb, jc, jm, jp⟩
