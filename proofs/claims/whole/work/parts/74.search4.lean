/-! The class's search of plans: a run -/
variable {h : Hp}
/-- the numbers from a column on are taken -/
def NI (n c : Nat) (v : Nat → Nat → Int32) (h : Hp) : Prop := ∀ c' j, c ≤ c' → c' < n → j < 3 → gI h 39 (3 * c' + j) = v c' j ∧ gI h 40 (3 * c' + j) = loT v j (n - 1 - c') c' ∧ gI h 41 (3 * c' + j) = hiT v j (n - 1 - c') c'
theorem t_Ps_takeNumbers {cc n c : Nat} {f : Nat → Int32} {tu : Int32} {Q : Hp → Prop} (m : XS h) (h6 : gR h 35 6 = cc) (co : CO h cc) (hn : gI h cc 2 = nI n) (hn8 : n ≤ 8) (hcc : cc = 19 ∨ cc = 21) (hf : gI h (cc + 1) = f) (hc : c < n) (ni : NI n (c + 1) (vT f tu) h) (hq : ∀ h', Fx [39, 40, 41] [] h h' → gR h' = gR h → NI n c (vT f tu) h' → Q h') : w_Ps_takeNumbers 35 (nI c) (if nI c = tu then -1 else 1) h Q := by
  unfold w_Ps_takeNumbers
  refine loop_0 (fun x j s => w_Ps_takeNumbers_L2 Q 35 (nI c) (if nI c = tu then -1 else 1) x (nI j) s) (fun j s => Fx [39, 40, 41] [] h s ∧ gR s = gR h ∧ ∀ c' j', (c + 1 ≤ c' ∨ c' = c ∧ j' < j) → c' < n → j' < 3 → gI s 39 (3 * c' + j') = vT f tu c' j' ∧ gI s 40 (3 * c' + j') = loT (vT f tu) j' (n - 1 - c') c' ∧ gI s 41 (3 * c' + j') = hiT (vT f tu) j' (n - 1 - c') c') 3 h ⟨fx_refl _ _ _, rfl, fun c' j' a b d => ni c' j' (by omega) b d⟩ ?_ ?_
  · rintro x s ⟨fs, gs, es⟩
    unfold w_Ps_takeNumbers_L2
    exact ⟨fun _ => hq s fs gs (fun c' j a b d => es c' j (by omega) b d), fun z => absurd (Int32.le_refl _) z⟩
  · rintro x j s hj ⟨fs, gs, es⟩ ih
    have ms := fx_XS fs m
    have cos := fx_CO fs (by omega) co
    have r6 : gR s 35 6 = cc := by rw [gs]; exact h6
    have hns : gI s cc 2 = nI n := by
      rcases hcc with e | e
      · rw [e] at hn ⊢; rw [fx_I fs (by decide)]; exact hn
      · rw [e] at hn ⊢; rw [fx_I fs (by decide)]; exact hn
    have hfs : gI s (cc + 1) = f := by
      rcases hcc with e | e
      · rw [e] at hf ⊢; rw [fx_I fs (by decide)]; exact hf
      · rw [e] at hf ⊢; rw [fx_I fs (by decide)]; exact hf
    have ev : (if nI c = tu then -1 else 1) * f (3 * c + j) = vT f tu c j := rfl
    -- the end: both bounds are laid
    have fin : ∀ lo hi : Int32, lo = loT (vT f tu) j (n - 1 - c) c → hi = hiT (vT f tu) j (n - 1 - c) c → w_Ps_takeNumbers_L2 Q 35 (nI c) (if nI c = tu then -1 else 1) x (nI (j + 1)) (sI (sI (sI s 39 (3 * c + j) (vT f tu c j)) 40 (3 * c + j) lo) 41 (3 * c + j) hi) := fun lo hi hlo hhi => by
      refine ih _ ⟨fx_trans (fx_trans (fx_trans fs (fx_sI _ _ (by simp))) (fx_sI _ _ (by simp))) (fx_sI _ _ (by simp)), gs, fun c' j' a b d => ?_⟩
      have k1 : gI (sI (sI (sI s 39 (3 * c + j) (vT f tu c j)) 40 (3 * c + j) lo) 41 (3 * c + j) hi) 39 (3 * c' + j') = if 3 * c' + j' = 3 * c + j then vT f tu c j else gI s 39 (3 * c' + j') := by
        rw [gI_sI, if_neg (fun y => absurd y.1 (by decide)), gI_sI, if_neg (fun y => absurd y.1 (by decide)), gI_sI]
        by_cases e : 3 * c' + j' = 3 * c + j
        · rw [if_pos ⟨rfl, e⟩, if_pos e]
        · rw [if_neg (fun y => e y.2), if_neg e]
      have k2 : gI (sI (sI (sI s 39 (3 * c + j) (vT f tu c j)) 40 (3 * c + j) lo) 41 (3 * c + j) hi) 40 (3 * c' + j') = if 3 * c' + j' = 3 * c + j then lo else gI s 40 (3 * c' + j') := by
        rw [gI_sI, if_neg (fun y => absurd y.1 (by decide)), gI_sI]
        by_cases e : 3 * c' + j' = 3 * c + j
        · rw [if_pos ⟨rfl, e⟩, if_pos e]
        · rw [if_neg (fun y => e y.2), if_neg e, gI_sI, if_neg (fun y => absurd y.1 (by decide))]
      have k3 : gI (sI (sI (sI s 39 (3 * c + j) (vT f tu c j)) 40 (3 * c + j) lo) 41 (3 * c + j) hi) 41 (3 * c' + j') = if 3 * c' + j' = 3 * c + j then hi else gI s 41 (3 * c' + j') := by
        rw [gI_sI]
        by_cases e : 3 * c' + j' = 3 * c + j
        · rw [if_pos ⟨rfl, e⟩, if_pos e]
        · rw [if_neg (fun y => e y.2), if_neg e, gI_sI, if_neg (fun y => absurd y.1 (by decide)), gI_sI, if_neg (fun y => absurd y.1 (by decide))]
      rw [k1, k2, k3]
      by_cases e : 3 * c' + j' = 3 * c + j
      · have e1 : c' = c := by omega
        have e2 : j' = j := by omega
        rw [if_pos e, if_pos e, if_pos e, e1, e2, hlo, hhi]
        exact ⟨rfl, rfl, rfl⟩
      · rw [if_neg e, if_neg e, if_neg e]
        exact es c' j' (by omega) b d
    unfold w_Ps_takeNumbers_L2
    refine ⟨fun z => absurd z (nI_ge (b := 3) hj (by omega)), fun _ => ?_⟩
    rw [r6]
    refine ⟨X_k35 ms, cos.1, t_Co_numberOf cos (by omega) ?_⟩
    rw [hfs, ev, r6, hns, nI_1, show (3 : Int32) = nI 3 from rfl, pk_mul, nI_add, show c * 3 + j = 3 * c + j from by omega]
    refine ⟨X_k35 ms, cos.1, fun z => ?_, fun z => ?_⟩
    · have lt : c + 1 < n := by
        by_cases e : c + 1 < n
        · exact e
        · exact absurd z (nI_nlt (by omega) (by omega))
      have nx := es (c + 1) j (Or.inl (Nat.le_refl _)) lt hj
      have e3 : n - 1 - c = (n - 1 - (c + 1)) + 1 := by omega
      unfold w_Ps_takeNumbers_B45
      rw [X_k35 ms, X_r35_3 ms, X_r35_4 ms, X_k39 ms, X_k40 ms, X_n39 ms, X_n40 ms, show (3 : Int32) = nI 3 from rfl, nI_add, ix_nI (n := 3 * c + j) (by omega), ix_nI (n := 3 * c + j + 3) (by omega)]
      refine ⟨rfl, rfl, vp_in_nI (by omega) (by omega), fun _ => ⟨rfl, vp_in_nI (by omega) (by omega), t_min ?_⟩, fun y => absurd rfl y⟩
      unfold w_Ps_takeNumbers_B86
      rw [gK_sI, gN_sI, gR_sI, X_k35 ms, X_r35_5 ms, X_k40 ms, X_n40 ms, X_k41 ms, X_n41 ms, nI_1, show (3 : Int32) = nI 3 from rfl, nI_add, ix_nI (n := 3 * c + j) (by omega), ix_nI (n := 3 * c + j + 3) (by omega)]
      refine ⟨rfl, vp_in_nI (by omega) (by omega), rfl, fun _ => ⟨rfl, vp_in_nI (by omega) (by omega), t_max ?_⟩, fun y => absurd rfl y⟩
      rw [gK_sI, gK_sI, gN_sI, gN_sI, X_k41 ms, X_n41 ms]
      refine ⟨rfl, vp_in_nI (by omega) (by omega), fin _ _ ?_ ?_⟩
      · rw [gI_sI, if_neg (fun y => absurd y.1 (by decide)), show 3 * c + j + 3 = 3 * (c + 1) + j from by omega, nx.2.1, e3]
        rfl
      · rw [gI_sI, if_neg (fun y => absurd y.1 (by decide)), gI_sI, if_neg (fun y => absurd y.1 (by decide)), show 3 * c + j + 3 = 3 * (c + 1) + j from by omega, nx.2.2, e3]
        rfl
    · have e3 : n - 1 - c = 0 := by
        have : ¬ c + 1 < n := fun g => z (nI_lt g (by omega))
        omega
      unfold w_Ps_takeNumbers_B45
      rw [X_k35 ms, X_r35_3 ms, X_r35_4 ms, X_k39 ms, X_n39 ms, ix_nI (n := 3 * c + j) (by omega)]
      refine ⟨rfl, rfl, vp_in_nI (by omega) (by omega), fun y => absurd y (by decide), fun _ => ?_⟩
      unfold w_Ps_takeNumbers_B86
      rw [gK_sI, gN_sI, gR_sI, X_k35 ms, X_r35_5 ms, X_k40 ms, X_n40 ms, X_k41 ms, X_n41 ms, nI_1, ix_nI (n := 3 * c + j) (by omega)]
      refine ⟨rfl, vp_in_nI (by omega) (by omega), rfl, fun y => absurd y (by decide), fun _ => ⟨rfl, vp_in_nI (by omega) (by omega), fin _ _ ?_ ?_⟩⟩
      · rw [e3]; rfl
      · rw [e3]; rfl
theorem t_Ps_run {cc n t ta en : Nat} {f tg : Nat → Int32} {tu : Int32} {Q : Hp → Prop} (m : XS h) (co : CO h cc) (hn : gI h cc 2 = nI n) (hn8 : n ≤ 8) (hcc : cc = 19 ∨ cc = 21) (hf : gI h (cc + 1) = f) (hF : FB f n) (hX : 81 ≤ gX h) (ht : t ≤ 12) (hen : en < 2 ^ 31) (hen1 : 0 < en) (hta : gK h ta = 20 ∧ gN h ta = 3 ∧ ta ∉ [35, 36, 37, 38, 39, 40, 41]) (htg : ∀ j, j < 3 → gI h ta j = tg j) (hq : ∀ h', Fx [35, 36, 37, 38, 39, 40, 41] [] h h' → SP n en (fdS en (vT f tu) (fun c => f (24 + c)) 0 tg [] 0 (PL n t) (0, 0, [])) h' → Q h') : w_Ps_run 35 cc tu (nI t) ta (nI en) h Q := by
  unfold w_Ps_run
  have f0 : Fx [35, 36, 37, 38, 39, 40, 41] [] h (sA (sI (sI (sI (sR h 35 6 cc) 35 7 (nI en)) 35 8 0) 35 9 0) 36 (va_cpy (gI (sI (sI (sI (sR h 35 6 cc) 35 7 (nI en)) 35 8 0) 35 9 0) ta) (gI (sI (sI (sI (sR h 35 6 cc) 35 7 (nI en)) 35 8 0) 35 9 0) 36) 0 0 3)) := by
    refine fx_trans (fx_trans (fx_trans (fx_trans (h1 := sR h 35 6 cc) ⟨rfl, rfl, rfl, fun a k hx => ?_, fun _ _ _ => rfl, fun _ _ _ => rfl⟩ (fx_sI _ _ (by simp))) (fx_sI _ _ (by simp))) (fx_sI _ _ (by simp))) (fx_sA _ _ (by simp))
    rw [gR_sR, if_neg hx]
  have r6 : gR (sA (sI (sI (sI (sR h 35 6 cc) 35 7 (nI en)) 35 8 0) 35 9 0) 36 (va_cpy (gI (sI (sI (sI (sR h 35 6 cc) 35 7 (nI en)) 35 8 0) 35 9 0) ta) (gI (sI (sI (sI (sR h 35 6 cc) 35 7 (nI en)) 35 8 0) 35 9 0) 36) 0 0 3)) 35 6 = cc := by
    rw [gR_sA, gR_sI, gR_sI, gR_sI, gR_sR, if_pos ⟨rfl, rfl⟩]
  have r0 : gR (sI (sI (sI (sR h 35 6 cc) 35 7 (nI en)) 35 8 0) 35 9 0) 35 0 = 36 := by
    rw [gR_sI, gR_sI, gR_sI, gR_sR, if_neg (by decide)]; exact X_r35_0 m
  have k7 : gI (sA (sI (sI (sI (sR h 35 6 cc) 35 7 (nI en)) 35 8 0) 35 9 0) 36 (va_cpy (gI (sI (sI (sI (sR h 35 6 cc) 35 7 (nI en)) 35 8 0) 35 9 0) ta) (gI (sI (sI (sI (sR h 35 6 cc) 35 7 (nI en)) 35 8 0) 35 9 0) 36) 0 0 3)) 35 7 = nI en := by
    rw [gI_sA, if_neg (by decide), gI_sI, if_neg (by decide), gI_sI, if_neg (by decide), gI_sI, if_pos ⟨rfl, rfl⟩]
  have k8 : gI (sA (sI (sI (sI (sR h 35 6 cc) 35 7 (nI en)) 35 8 0) 35 9 0) 36 (va_cpy (gI (sI (sI (sI (sR h 35 6 cc) 35 7 (nI en)) 35 8 0) 35 9 0) ta) (gI (sI (sI (sI (sR h 35 6 cc) 35 7 (nI en)) 35 8 0) 35 9 0) 36) 0 0 3)) 35 8 = 0 := by
    rw [gI_sA, if_neg (by decide), gI_sI, if_neg (by decide), gI_sI, if_pos ⟨rfl, rfl⟩]
  have k9 : gI (sA (sI (sI (sI (sR h 35 6 cc) 35 7 (nI en)) 35 8 0) 35 9 0) 36 (va_cpy (gI (sI (sI (sI (sR h 35 6 cc) 35 7 (nI en)) 35 8 0) 35 9 0) ta) (gI (sI (sI (sI (sR h 35 6 cc) 35 7 (nI en)) 35 8 0) 35 9 0) 36) 0 0 3)) 35 9 = 0 := by
    rw [gI_sA, if_neg (by decide), gI_sI, if_pos ⟨rfl, rfl⟩]
  have kr : ∀ j, j < 3 → gI (sA (sI (sI (sI (sR h 35 6 cc) 35 7 (nI en)) 35 8 0) 35 9 0) 36 (va_cpy (gI (sI (sI (sI (sR h 35 6 cc) 35 7 (nI en)) 35 8 0) 35 9 0) ta) (gI (sI (sI (sI (sR h 35 6 cc) 35 7 (nI en)) 35 8 0) 35 9 0) 36) 0 0 3)) 36 j = tg j := fun j hj => by
    have ne : ta ≠ 35 := fun g => hta.2.2 (by rw [g]; decide)
    rw [gI_sA, if_pos rfl]
    unfold va_cpy
    rw [if_pos (by omega), show 0 + (j - 0) = j from by omega, gI_sI, if_neg (fun y => ne y.1), gI_sI, if_neg (fun y => ne y.1), gI_sI, if_neg (fun y => ne y.1)]
    exact htg j hj
  rw [r0, show ix (0 : Int32) = 0 from rfl, show ix (3 : Int32) = 3 from rfl]
  refine ⟨X_k35 m, by omega, hta.1, X_k36 m, by rw [hta.2.1]; decide, by rw [X_n36 m]; decide, co.1, ?_⟩
  revert f0 r6 k7 k8 k9 kr
  generalize sA (sI (sI (sI (sR h 35 6 cc) 35 7 (nI en)) 35 8 0) 35 9 0) 36 (va_cpy (gI (sI (sI (sI (sR h 35 6 cc) 35 7 (nI en)) 35 8 0) 35 9 0) ta) (gI (sI (sI (sI (sR h 35 6 cc) 35 7 (nI en)) 35 8 0) 35 9 0) 36) 0 0 3) = h1
  intro f0 r6 k7 k8 k9 kr
  have m1 := fx_XS f0 m
  have co1 := fx_CO f0 (by omega) co
  have hn1 : gI h1 cc 2 = nI n := by
    rcases hcc with e | e
    · rw [e] at hn ⊢; rw [fx_I f0 (by decide)]; exact hn
    · rw [e] at hn ⊢; rw [fx_I f0 (by decide)]; exact hn
  have hf1 : gI h1 (cc + 1) = f := by
    rcases hcc with e | e
    · rw [e] at hf ⊢; rw [fx_I f0 (by decide)]; exact hf
    · rw [e] at hf ⊢; rw [fx_I f0 (by decide)]; exact hf
  have down : ∀ c, c ≤ n → ∀ s, Fx [39, 40, 41] [] h1 s → gR s = gR h1 → NI n c (vT f tu) s → w_Ps_run_L41 Q 35 tu (nI t) (c + 1) (nI c - 1) s := by
    intro c
    induction c with
    | zero =>
      intro _ s fs gs ni
      have ms := fx_XS fs m1
      unfold w_Ps_run_L41
      refine ⟨fun _ => ⟨X_k35 ms, ?_⟩, fun z => absurd (by decide) z⟩
      have hfs : gI s (cc + 1) = f := by
        rcases hcc with e | e
        · rw [e] at hf1 ⊢; rw [fx_I fs (by decide)]; exact hf1
        · rw [e] at hf1 ⊢; rw [fx_I fs (by decide)]; exact hf1
      have ph : PH cc n (vT f tu) (fun c => f (24 + c)) s := by
        refine ⟨ms, by rw [gs]; exact r6, fx_CO fs (by omega) co1, ?_, hn8, hcc, fun c j hc hj => ni c j (Nat.zero_le _) hc hj, fun c hc => by rw [hfs], vT_bd hF⟩
        rcases hcc with e | e
        · rw [e] at hn1 ⊢; rw [fx_I fs (by decide)]; exact hn1
        · rw [e] at hn1 ⊢; rw [fx_I fs (by decide)]; exact hn1
      refine t_Ps_ch ph hen n 0 12 t tg [] 0 (0, 0, []) s _ (by omega) (by omega) ht rfl hen1 ⟨fx_refl _ _ _, rfl, ?_, fun i hi => absurd hi (Nat.not_lt_zero _), ?_, ?_, ?_, fun g => absurd rfl g, Nat.zero_le _⟩ (fun h' pd => hq h' (fx_trans f0 (fx_trans (fx_mono fs (by simp) (by simp)) (fx_mono pd.1 (by simp) (by simp)))) pd.2.2.2.2)
      · rw [fx_I fs (x := 36) (by decide)]; exact kr
      · rw [fx_I fs (x := 35) (by decide)]; exact k7
      · rw [fx_I fs (x := 35) (by decide)]; exact k8
      · rw [fx_I fs (x := 35) (by decide)]; exact k9
    | succ c ih =>
      intro hc s fs gs ni
      have ms := fx_XS fs m1
      have tn := t_Ps_takeNumbers (h := s) (cc := cc) (n := n) (c := c) (f := f) (tu := tu) (Q := fun h10 => w_Ps_run_L41 Q 35 tu (nI t) (c + 1) (nI c + -1) h10) ms (by rw [gs]; exact r6) (fx_CO fs (by omega) co1) (by
        rcases hcc with e | e
        · rw [e] at hn1 ⊢; rw [fx_I fs (by decide)]; exact hn1
        · rw [e] at hn1 ⊢; rw [fx_I fs (by decide)]; exact hn1) hn8 hcc (by
        rcases hcc with e | e
        · rw [e] at hf1 ⊢; rw [fx_I fs (by decide)]; exact hf1
        · rw [e] at hf1 ⊢; rw [fx_I fs (by decide)]; exact hf1) (by omega) ni (fun s2 f2 g2 n2 => by
        have := ih (by omega) s2 (fx_trans fs f2) (g2.trans gs) n2
        rwa [Int32.sub_eq_add_neg] at this)
      unfold w_Ps_run_L41
      rw [nI_s1]
      refine ⟨fun z => absurd z (nI_pos (by omega)), fun _ => ⟨fun z => ?_, fun z => ?_⟩⟩
      · rw [if_pos z] at tn
        unfold w_Ps_run_B60
        exact ⟨X_k35 ms, tn⟩
      · rw [if_neg z] at tn
        unfold w_Ps_run_B60
        exact ⟨X_k35 ms, tn⟩
  rw [hn1]
  exact ⟨n + 1, down n (Nat.le_refl _) h1 (fx_refl _ _ _) rfl (fun c' j a b => absurd b (by omega))⟩
