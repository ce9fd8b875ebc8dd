/-! The class's strip: a sweep, kept; the columns of the best walk -/
variable {h : Hp}
/-- the strip as it is kept: its rows, all clear; what was found last, with its stamp -/
def KZ (f : Nat → Int32) (r n b ρ a : Nat) (h : Hp) : Prop := RM ρ a h ∧ (ρ = 0 ∨ ρ = 25 ∨ ρ = 625 ∨ ρ = 15625) ∧ (a = 46 ∧ ρ = 0 ∨ 120 ≤ a) ∧ (∀ y, y < 2 * ρ → gL h a y = 0) ∧ (gI h 42 11 = -1 ∨ ∃ t w s, t ≤ 12 ∧ w ≤ 12 ∧ gI h 42 11 = nI t ∧ gI h 42 12 = nI w ∧ gI h 42 13 = nI s ∧ s ≤ b ∧ (s = b → VS f r n t w ρ a h))
theorem nI_mi1 {t : Nat} (ht : t < 2 ^ 31) : nI t ≠ -1 := fun q => by
  have := congrArg Int32.toInt q
  rw [nI_toInt ht, show (-1 : Int32).toInt = -1 from rfl] at this
  omega
theorem pw25 {r : Nat} (h1 : 1 ≤ r) (hr : r ≤ 3) : 25 ^ r = 25 ∨ 25 ^ r = 625 ∨ 25 ^ r = 15625 := by
  match r, h1, hr with
  | 1, _, _ => exact Or.inl rfl
  | 2, _, _ => exact Or.inr (Or.inl rfl)
  | 3, _, _ => exact Or.inr (Or.inr rfl)
theorem t_St_sweep_in {f : Nat → Int32} {r n b t w ρ a bc bs : Nat} {Q : Hp → Prop} (c0 : CN f r n h) (hX : 120 ≤ gX h) (hb : gI h 21 3 = nI b) (kt : KZ f r n b ρ a h) (ht : t ≤ 12) (hw : w ≤ 12) (hbc : csC r ρ ≤ bc) (hbs : csS r ρ ≤ bs)
    (hq : ∀ h' ρ' a', Fz [42, 43, 44, 45] [42] h h' → KZ f r n b ρ' a' h' → VS f r n t w ρ' a' h' → gI h' 42 11 = nI t → ρ' = max ρ (25 ^ r) → Q h') : w_St_sweep_B31 Q 42 (nI t) (nI w) bc bs h := by
  have m := c0.1
  have hr1 := c0.2.1.2.2.2.1
  have hr := c0.2.1.2.2.2.2.1
  obtain ⟨rm, k1, k2, k3, k4⟩ := kt
  have p1 := pw25 hr1 hr
  have fin : ∀ ρ' a' h2 bc bs, Fz [42, 43, 44, 45] [42] h h2 → RM ρ' a' h2 → 120 ≤ a' → (ρ' = 0 ∨ ρ' = 25 ∨ ρ' = 625 ∨ ρ' = 15625) → 25 ^ r ≤ ρ' → ρ' = max ρ (25 ^ r) → (∀ y, y < 2 * ρ' → gL h2 a' y = 0) → gI h2 42 11 = nI t → gI h2 42 12 = nI w → gI h2 42 13 = nI b → gK h2 42 = 9 ∧ w_St_setBounds 42 (nI t) (nI w) h2 (fun h10 => gK h10 42 = 9 ∧ (w_St_start 42 h10 (fun r13 h12 => gK h12 42 = 9 ∧ (∃ n26, w_St_sweep_L75 Q 42 (nI t) n26 r13 (0 : Int32) bc bs (sI h12 42 14 r13))))) := by
    intro ρ' a' h2 bc bs x2 rm2 ha kρ hρ em cl2 e11 e12 e13
    have c2 := CN_fz c0 x2 (by decide) (by decide)
    have hρ1 : ρ' ≤ 15625 := by omega
    refine ⟨X_k42 c2.1, t_St_setBounds c2 ht hw (fun h3 x3 o3 sb3 => ?_)⟩
    have c3 := CN_fx c2 x3 (by decide) (by decide)
    have rm3 := RM_fx rm2 x3 (o3 6 (by decide) (by decide))
    refine ⟨X_k42 c3.1, t_St_start (n := n) c3 rm3 hρ1 hρ ht hw sb3 (fun y hy => by rw [fx_L x3 (x := a') (by simp)]; exact cl2 y hy) (fun h4 x4 si4 cn4 => ?_)⟩
    have n4 : ∀ x, x < 45 → x ∉ [45, a' + 1, a' + 2] := fun x hx => by simp; omega
    have x5 : Fx [42, 45, a' + 1, a' + 2] [a'] h3 (sI h4 42 14 (nI (lay f r n t w 0).length)) := fx_trans (fx_mono x4 (by simp) (by simp)) (fx_sI _ _ (by simp))
    have c5 : CN f r n (sI h4 42 14 (nI (lay f r n t w 0).length)) := CN_fx c3 x5 (by simp; omega) (by simp; omega)
    have o5 : ∀ j, j ≠ 14 → gI (sI h4 42 14 (nI (lay f r n t w 0).length)) 42 j = gI h3 42 j := fun j hj => by rw [gI_sI, if_neg (fun q => hj q.2), fx_I x4 (n4 42 (by omega))]
    have r5 : ∀ b j, b ≠ 42 → gI (sI h4 42 14 (nI (lay f r n t w 0).length)) b j = gI h4 b j := fun b j hb => by rw [gI_sI, if_neg (fun q => hb q.1)]
    have rm5 : RM ρ' a' (sI h4 42 14 (nI (lay f r n t w 0).length)) := RM_fx rm3 x5 (o5 6 (by decide))
    have sb5 : SB f r t w (sI h4 42 14 (nI (lay f r n t w 0).length)) := SB_eq sb3 (o5 4 (by decide)) (o5 5 (by decide)) (fx_I x5 (by simp; omega)) (fx_I x5 (by simp; omega))
    have si5 : SI f r n t w 0 ρ' a' (sI h4 42 14 (nI (lay f r n t w 0).length)) := SI_eq si4 (funext (fun j => r5 _ j (by omega))) (funext (fun j => r5 _ j (by omega))) rfl
    have e14 : gI (sI h4 42 14 (nI (lay f r n t w 0).length)) 42 14 = nI (lay f r n t w 0).length := by rw [gI_sI, if_pos ⟨rfl, rfl⟩]
    refine ⟨X_k42 (fx_XS x4 c3.1), t_St_layers c5 rm5 hρ1 hρ ht hw sb5 si5 cn4 e14 (fun h6 x6 o6 vs cl6 => ?_)⟩
    have o36 : ∀ j, j ≠ 4 → j ≠ 5 → j ≠ 14 → j ≠ 16 → gI h6 42 j = gI h2 42 j := fun j h1 h2 h3 h4 => by rw [o6 j h3 h4, o5 j h3, o3 j h1 h2]
    have f11 : gI h6 42 11 = nI t := by rw [o36 11 (by decide) (by decide) (by decide) (by decide)]; exact e11
    refine hq h6 ρ' a' ?_ ⟨RM_fx rm5 x6 (o6 6 (by decide) (by decide)), kρ, Or.inr ha, cl6, Or.inr ⟨t, w, b, ht, hw, f11, ?_, ?_, Nat.le_refl _, fun _ => vs⟩⟩ vs f11 em
    · refine fz_trans x2 (fz_trans (fz_fx x3 (by simp) (by simp)) (fz_trans (fz_fx x5 ?_ ?_) (fz_fx x6 ?_ ?_)))
      · simp; omega
      · simp; omega
      · simp; omega
      · simp; omega
    · rw [o36 12 (by decide) (by decide) (by decide) (by decide)]; exact e12
    · rw [o36 13 (by decide) (by decide) (by decide) (by decide)]; exact e13
  unfold w_St_sweep_B31
  rw [X_r42_0 m]
  have e21 : gI (sI (sI h 42 11 (nI t)) 42 12 (nI w)) 21 3 = nI b := by rw [gI_sI, if_neg (by decide), gI_sI, if_neg (by decide)]; exact hb
  rw [e21]
  have x1 : Fx [42] [] h (sI (sI (sI h 42 11 (nI t)) 42 12 (nI w)) 42 13 (nI b)) := fx_trans (fx_sI _ _ (by simp)) (fx_trans (fx_sI _ _ (by simp)) (fx_sI _ _ (by simp)))
  have q11 : gI (sI (sI (sI h 42 11 (nI t)) 42 12 (nI w)) 42 13 (nI b)) 42 11 = nI t := by rw [gI_sI, if_neg (by decide), gI_sI, if_neg (by decide), gI_sI, if_pos ⟨rfl, rfl⟩]
  have q12 : gI (sI (sI (sI h 42 11 (nI t)) 42 12 (nI w)) 42 13 (nI b)) 42 12 = nI w := by rw [gI_sI, if_neg (by decide), gI_sI, if_pos ⟨rfl, rfl⟩]
  have q13 : gI (sI (sI (sI h 42 11 (nI t)) 42 12 (nI w)) 42 13 (nI b)) 42 13 = nI b := by rw [gI_sI, if_pos ⟨rfl, rfl⟩]
  have q6 : gI (sI (sI (sI h 42 11 (nI t)) 42 12 (nI w)) 42 13 (nI b)) 42 6 = gI h 42 6 := by rw [gI_sI, if_neg (by decide), gI_sI, if_neg (by decide), gI_sI, if_neg (by decide)]
  have l1 : ∀ a, gL (sI (sI (sI h 42 11 (nI t)) 42 12 (nI w)) 42 13 (nI b)) a = gL h a := fun a => rfl
  have X1 : gX (sI (sI (sI h 42 11 (nI t)) 42 12 (nI w)) 42 13 (nI b)) = gX h := rfl
  generalize sI (sI (sI h 42 11 (nI t)) 42 12 (nI w)) 42 13 (nI b) = h1 at x1 q11 q12 q13 q6 l1 X1 ⊢
  have c1 := CN_fx c0 x1 (by decide) (by decide)
  have rm1 := RM_fx rm x1 q6
  refine ⟨X_k42 m, X_k21 m, by omega, bc - csC r ρ, bs - csS r ρ, csC r ρ, csS r ρ, by omega, by omega, t_St_makeRoom c1 (by omega) rm1 (by omega) (Nat.le_refl _) (Nat.le_refl _) (fun g => ?_) (fun g h2 x2 o2 rm2 cl2 X2 => ?_)⟩
  · refine fin ρ a h1 _ _ (fz_fx x1 (by simp) (by simp)) rm1 ?_ k1 g ?_ (fun y hy => by rw [l1]; exact k3 y hy) q11 q12 q13
    · omega
    · omega
  · refine fin (25 ^ r) (gX h1) h2 _ _ (fz_trans (fz_fx x1 (by simp) (by simp)) (fz_mono x2 (by simp) (by simp))) rm2 (by omega) (by omega) (Nat.le_refl _) (by omega) (fun y _ => cl2 y) ?_ ?_ ?_
    · rw [o2 11 (by decide)]; exact q11
    · rw [o2 12 (by decide)]; exact q12
    · rw [o2 13 (by decide)]; exact q13
theorem t_St_sweep {f : Nat → Int32} {r n b t w ρ a bc bs : Nat} {Q : Hp → Prop} (c0 : CN f r n h) (hX : 120 ≤ gX h) (hb : gI h 21 3 = nI b) (hb2 : b < 2 ^ 31) (kt : KZ f r n b ρ a h) (ht : t ≤ 12) (hw : w ≤ 12) (hbc : csC r ρ ≤ bc) (hbs : csS r ρ ≤ bs)
    (hq : ∀ h' ρ' a', Fz [42, 43, 44, 45] [42] h h' → KZ f r n b ρ' a' h' → VS f r n t w ρ' a' h' → gI h' 42 11 = nI t → ρ' = max ρ (25 ^ r) → Q h') : w_St_sweep bc bs 42 (nI t) (nI w) h Q := by
  have m := c0.1
  have go := t_St_sweep_in c0 hX hb kt ht hw hbc hbs hq
  unfold w_St_sweep
  rw [X_r42_0 m, hb]
  refine ⟨X_k42 m, fun z1 => ⟨fun z2 => ⟨X_k21 m, fun z3 => ?_, fun _ => go⟩, fun _ => go⟩, fun _ => go⟩
  have kt0 := kt
  obtain ⟨rm, k1, k2, k3, k4⟩ := kt
  rcases k4 with k4 | ⟨t', w', s, h1, h2, e1, e2, e3, e4, vs⟩
  · rw [k4] at z1
    exact absurd z1 (nI_mi1 (by omega))
  · rw [e1, nI_eq (by omega) (by omega)] at z1
    rw [e2, nI_eq (by omega) (by omega)] at z2
    rw [e3, nI_eq (by omega) (by omega)] at z3
    subst z1
    subst z2
    have vs := vs z3.symm
    have hρ := vs.2.2.2.2.2
    exact hq h ρ a (fz_refl _ _ _) kt0 vs e1 (by omega)
theorem t_St_columnAt {f : Nat → Int32} {r n t w ρ a i : Nat} {Q : Int32 → Hp → Prop} (c0 : CN f r n h) (rm : RM ρ a h) (hρ1 : ρ ≤ 15625) (ha : 120 ≤ a) (ht : t ≤ 12) (hw : w ≤ 12) (hi : i < t) (vs : VS f r n t w ρ a h) (e11 : gI h 42 11 = nI t) (hv : wz f r n t w t (fun _ => 0) ≠ 0) (hq : ∀ h', Fx [45] [] h h' → Q (nI (bsC f r n t w (t - i - 1) (swk f r n t w i))) h') : w_St_columnAt 42 (nI i) h Q := by
  have m := c0.1
  have hn := c0.2.1.2.2.2.2.2
  have hr1 := c0.2.1.2.2.2.1
  have hr := c0.2.1.2.2.2.2.1
  have hF := c0.2.2.2.1
  have hN := c0.2.2.2.2.1
  have hG := c0.2.2.2.2.2.1
  have hZ := c0.2.2.2.2.2.2.1
  obtain ⟨sb, v14, v15, v16, ci, hρ⟩ := vs
  have vn := Vk_need (f := f) (r := r) (n := n) (t := t) (w := w)
  unfold w_St_columnAt
  refine ⟨X_k42 m, t_St_atNeed c0 (fun h1 x1 at1 => ⟨X_k42 (fx_XS x1 m), ?_⟩)⟩
  rw [fx_I x1 (x := 42) (by decide), e11]
  have m0 : mz f (fun j => (f (32 + j)).toInt) = swk f r n t w 0 := by
    funext j
    show (f (32 + j)).toInt - (f (32 + j)).toInt = 0
    omega
  refine loop_0 (fun q l (x : Int32 × Hp) => w_St_columnAt_L11 Q 42 (nI i) q x.1 (nI (t - l)) x.2) (fun l x => Fx [45] [] h x.2 ∧ (l ≤ i → ∃ z : Nat → Int, AtZ z x.2 ∧ mz f z = swk f r n t w l ∧ Vk f r n t w (t - l) z ≠ 0 ∧ ∀ j, r ≤ j → j < 3 → z j = 0) ∧ (1 ≤ l → x.1 = nI (bsC f r n t w (t - l) (swk f r n t w (l - 1))))) (i + 1) (-1, h1) ⟨x1, fun _ => ⟨_, at1, m0, by rw [Nat.sub_zero, vn.1]; exact hv, fun j h1 h2 => by rw [(hZ j h1 h2).1]; rfl⟩, fun g => absurd g (by omega)⟩ ?_ ?_
  · rintro q ⟨v, s⟩ ⟨xs, -, e2⟩
    have ms := fx_XS xs m
    have e2 := e2 (by omega)
    dsimp only at xs e2 ⊢
    have fin : Q v s := by
      rw [e2]
      exact hq s xs
    unfold w_St_columnAt_L11
    rw [fx_I xs (x := 42) (by decide), e11, pk_sub (by omega)]
    exact ⟨fun _ => fin, fun z => ⟨X_k42 ms, fun _ => fin, fun z2 => absurd (nI_lt (by omega) (by omega)) z2⟩⟩
  · rintro q l ⟨v, s⟩ hl ⟨xx, e1, e2⟩ ih
    dsimp only at xx e2 ⊢
    obtain ⟨z, az, mzl, vk, z0⟩ := e1 (by omega)
    have cs := CN_fx c0 xx (by decide) (by decide)
    have ms := cs.1
    have f42 : gI s 42 = gI h 42 := fx_I xx (by decide)
    have sbs : SB f r t w s := SB_eq sb (by rw [f42]) (by rw [f42]) (fx_I xx (by decide)) (fx_I xx (by decide))
    have rms := RM_fx rm xx (by rw [f42])
    obtain ⟨y, hy, ey⟩ := V_lay hr hF hN ht hw hZ hn (t - l) (by omega) z z0 vk
    obtain ⟨k', hk'⟩ : ∃ k', t - l = k' + 1 := ⟨t - l - 1, by omega⟩
    have iby := lay_inB (n := n) hr hF hN ht hw (t - l) (by omega) y hy
    have ib : inB f r t w (t - l) z := fun j hj => by rw [← ey j hj]; exact iby j hj
    have zb : ∀ j, j < 3 → (z j).natAbs ≤ 60 := fun j hj => by rw [← ey j hj]; exact isKy_bd hF (show t - l ≤ 12 by omega) (lay_isKy hF (by omega) hy) hj
    have hc := Nat.lt_of_lt_of_le (cl_lt hw hr1 hr ib) hρ
    unfold w_St_columnAt_L11
    rw [f42, e11, pk_sub (by omega)]
    refine ⟨fun y => absurd y (nI_ge (b := t - l) (a := 0) (by omega) (by omega)), fun _ => ⟨X_k42 ms, fun y => absurd y (nI_nlt (by omega) (by omega)), fun _ => t_St_cellOf (k := t - l) ms hN ht hw sbs (by omega) az (fun j hj => by have := zb j hj; omega) (fun g => absurd ib g) (fun _ => ⟨fun _ => ⟨X_k42 ms, t_St_choiceAt ms rms hρ1 (by omega) hc ?_⟩, fun y => absurd (nI_le (a := 0) (Nat.zero_le _) (by omega)) y⟩)⟩⟩
    have ch : chP a s ((t - l) * ρ + cl f r t w (t - l) z) = bsC f r n t w k' (swk f r n t w l) := by
      rw [chP_eq (fx_L xx (x := a + 3) (by simp)), hk', cl_congr (fun j hj => (ey j hj).symm)]
      rw [hk'] at hy
      have em : mz f (Zk y) = fun j => if j < 3 then mz f z j else mz f (Zk y) j := by
        funext j
        by_cases g : j < 3
        · rw [if_pos g]
          unfold mz
          rw [ey j g]
        · rw [if_neg g]
      rw [ci k' (by omega) y hy]
      unfold bsC
      congr 1
      funext c
      rw [← mzl]
      exact bB_congr (fun j hj => by unfold mz; rw [ey j (by omega)]) c
    have swz : wz f r n t w (k' + 1) (swk f r n t w l) ≠ 0 := by
      rw [← hk', ← mzl]
      exact (vz_wz vk).2
    obtain ⟨c0', hc0, hb0⟩ := bB_ex hG (by omega) swz
    obtain ⟨p1, p2, p3, p4⟩ := fnd_sp (F := bB f r n t w k' (swk f r n t w l)) n 0 ⟨c0', Nat.zero_le _, by omega, hb0⟩
    have hbs : fnd (bB f r n t w k' (swk f r n t w l)) n 0 = bsC f r n t w k' (swk f r n t w l) := rfl
    rw [hbs, Nat.zero_add] at p2
    rw [hbs] at p3
    unfold bB at p3
    rw [Bool.and_eq_true] at p3
    have vb := of_decide_eq_true p3.1
    unfold w_St_columnAt_B48
    rw [X_r42_0 ms, ch]
    refine ⟨X_k42 ms, X_k21 ms, t_Co_hasColumn (X_k21 ms) cs.2.1.2.2.1 (by omega) ?_⟩
    rw [inb_nI (by omega) p2]
    refine ⟨fun y => absurd y (by decide), fun _ => ⟨X_k42 ms, ?_⟩⟩
    rw [X_r42_0 ms, X_r42_3 ms]
    refine ⟨X_k21 ms, t_Co_addTo (CO_21 ms) (by omega) (X_k45 ms) (X_n45 ms) (by decide) ?_⟩
    have em1 : nI (t - l) + (-1 : Int32) = nI (t - (l + 1)) := by
      rw [← Int32.toInt_inj, Jvm.Kit.i32_add (by rw [nI_toInt (by omega), show (-1 : Int32).toInt = -1 from rfl]; omega) (by rw [nI_toInt (by omega), show (-1 : Int32).toInt = -1 from rfl]; omega), nI_toInt (by omega), nI_toInt (by omega), show (-1 : Int32).toInt = -1 from rfl]
      omega
    rw [em1]
    refine ih (nI (bsC f r n t w k' (swk f r n t w l)), sA s 45 (adT (gI s 45) (gI s (21 + 1)) (bsC f r n t w k' (swk f r n t w l)) (-1) 3)) ⟨fx_trans xx (fx_sA _ _ (by simp)), fun hl2 => ⟨bk f z (bsC f r n t w k' (swk f r n t w l)), fun j hj => ?_, ?_, ?_, fun j h1 h2 => ?_⟩, fun _ => ?_⟩
    · dsimp only
      rw [gI_sA, if_pos rfl]
      unfold adT
      rw [if_pos hj, show gI s (21 + 1) = f from cs.2.2.1]
      have f1 := hF _ j p2 hj
      have z1 := zb j hj
      have n1 : ((-1 : Int32) * f (3 * bsC f r n t w k' (swk f r n t w l) + j)).toInt = -(f (3 * bsC f r n t w k' (swk f r n t w l) + j)).toInt := by
        rw [Jvm.Kit.i32_mul (by rw [show (-1 : Int32).toInt = -1 from rfl]; omega) (by rw [show (-1 : Int32).toInt = -1 from rfl]; omega), show (-1 : Int32).toInt = -1 from rfl]
        omega
      have a1 : (gI s 45 j).toInt = z j := az j hj
      rw [Jvm.Kit.i32_add (by rw [n1]; omega) (by rw [n1]; omega), n1, a1]
      unfold bk
      omega
    · rw [← st_mz, mzl, swk, show t - l - 1 = k' from by omega]
    · unfold Vk
      rw [← st_mz, mzl, show t - (l + 1) = k' from by omega]
      exact vb
    · unfold bk
      rw [z0 j h1 h2, (hZ j h1 h2).2 _ (by omega)]
      rfl
    · rw [show t - (l + 1) = k' from by omega]
      rfl
