/-! What the class keeps of the best plan, and tells of it -/
variable {h : Hp}
theorem nSt_3 {f : Nat → Int32} {r : Nat} {S : Nat → Int32} {k T : Int32} (hr : r ≤ 3) (hZ : ZB f r) (hS : ∀ j, r ≤ j → j < 3 → S j = 0) : mx (fun j => ab (T * S j - k * f (32 + j))) 3 = nSt f r S k T := by
  unfold nSt
  rw [mx_ext hr (fun j h1 h2 => ?_)]
  rw [hS j h1 h2, (hZ j h1 h2).1, Int32.mul_zero, Int32.mul_zero]
  rfl
theorem t_Op_straySorted {f : Nat → Int32} {r n t : Nat} {p : List Nat} {Q : Int32 → Hp → Prop} (c0 : CN f r n h) (hT : gI h 50 12 = nI t) (ho : ∀ j, j < n → gI h 51 j = nI (p.getD j 0)) (hp : ∀ j, p.getD j 0 ≤ 12) (hq : ∀ h', Fx [54] [] h h' → Q (srC f r (nI t) p n).1 h') : w_Op_straySorted 50 h Q := by
  have m := c0.1
  have hn := c0.2.1.2.2.2.2.2
  have hr := c0.2.1.2.2.2.2.1
  have hZ := c0.2.2.2.2.2.2.1
  unfold w_Op_straySorted
  rw [X_r50_5 m]
  refine ⟨X_k50 m, t_fill (X_k54 m) (X_n54 m) (by decide) ?_⟩
  have zero : ∀ (c : Nat) (S : Nat → Int32), c < n → (∀ j, r ≤ j → j < 3 → S j = 0) → (∀ j, r ≤ j → j < 3 → adR S f c r j = 0) := fun c S hc hS j h1 h2 => by
    unfold adR
    rw [if_neg (by omega)]
    exact hS j h1 h2
  refine loop_0 (fun x c (s : Int32 × Int32 × Hp) => w_Op_straySorted_L14 Q 50 x s.1 s.2.1 (nI c) s.2.2) (fun c s => Fx [54] [] h s.2.2 ∧ s.1 = (srC f r (nI t) p c).1 ∧ s.2.1 = nI (srC f r (nI t) p c).2.1 ∧ (∀ j, j < 3 → gI s.2.2 54 j = (srC f r (nI t) p c).2.2 j) ∧ ∀ j, r ≤ j → j < 3 → (srC f r (nI t) p c).2.2 j = 0) n (0, 0, sA h 54 (fl (gI h 54) 3 0)) ⟨fx_sA _ _ (by simp), rfl, rfl, fun j hj => ?_, fun j _ _ => rfl⟩ ?_ ?_
  · dsimp only
    rw [gI_sA, if_pos rfl]
    unfold fl
    rw [if_pos hj]
    rfl
  · rintro x ⟨a, k, y⟩ ⟨fy, ea, ek, ey, z0⟩
    dsimp only at fy ea ek ey ⊢
    have cy := CN_fx c0 fy (by decide) (by decide)
    unfold w_Op_straySorted_L14
    rw [X_r50_0 cy.1, cy.2.1.2.2.1, ea]
    exact ⟨X_k50 cy.1, cy.2.1.1.1, fun _ => hq y fy, fun z => absurd (Int32.le_refl _) z⟩
  · rintro x c ⟨a, k, y⟩ hc ⟨fy, ea, ek, ey, z0⟩ ih
    dsimp only at fy ea ek ey ⊢
    have cy := CN_fx c0 fy (by decide) (by decide)
    have pc := hp c
    unfold w_Op_straySorted_L14
    rw [X_r50_0 cy.1, cy.2.1.2.2.1]
    refine ⟨X_k50 cy.1, cy.2.1.1.1, fun z => absurd z (nI_ge hc (by omega)), fun _ => ?_⟩
    subst ea
    subst ek
    refine loop_0 (fun x' i (s : Int32 × Int32 × Hp) => w_Op_straySorted_L28 Q (w_Op_straySorted_L14 Q 50 x) 50 (nI c) x' s.1 s.2.1 (nI i) s.2.2) (fun i s => Fx [54] [] h s.2.2 ∧ s.1 = (itr (srS f r (nI t) c) i (srC f r (nI t) p c)).1 ∧ s.2.1 = nI (itr (srS f r (nI t) c) i (srC f r (nI t) p c)).2.1 ∧ (∀ j, j < 3 → gI s.2.2 54 j = (itr (srS f r (nI t) c) i (srC f r (nI t) p c)).2.2 j) ∧ ∀ j, r ≤ j → j < 3 → (itr (srS f r (nI t) c) i (srC f r (nI t) p c)).2.2 j = 0) (p.getD c 0) (_, _, y) ⟨fy, rfl, rfl, ey, z0⟩ ?_ ?_
    · rintro x' ⟨a, k, s⟩ ⟨fs, ea, ek, es, z1⟩
      dsimp only at fs ea ek es ⊢
      have cs := CN_fx c0 fs (by decide) (by decide)
      unfold w_Op_straySorted_L28
      rw [X_r50_2 cs.1, X_k51 cs.1, X_n51 cs.1, ix_nI (n := c) (by omega), fx_I fs (x := 51) (by decide), ho c hc, nI_1]
      exact ⟨X_k50 cs.1, rfl, vp_in_nI (by omega) (by omega), fun _ => ih (a, k, s) ⟨fs, ea, ek, es, z1⟩, fun z => absurd (Int32.le_refl _) z⟩
    · rintro x' i ⟨a, k, s⟩ hi ⟨fs, ea, ek, es, z1⟩ ih2
      dsimp only at fs ea ek es ⊢
      have cs := CN_fx c0 fs (by decide) (by decide)
      unfold w_Op_straySorted_L28
      rw [X_r50_0 cs.1, X_r50_2 cs.1, X_r50_5 cs.1, X_k51 cs.1, X_n51 cs.1, ix_nI (n := c) (by omega), fx_I fs (x := 51) (by decide), ho c hc, nI_1 i]
      refine ⟨X_k50 cs.1, rfl, vp_in_nI (by omega) (by omega), fun z => absurd z (nI_ge hi (by omega)), fun _ => ⟨cs.2.1.1.1, t_Co_addTo cs.2.1.1 (by omega) (X_k54 cs.1) (X_n54 cs.1) (by decide) ?_⟩⟩
      have f2 : Fx [54] [] s (sA s 54 (adT (gI s 54) (gI s (21 + 1)) c 1 3)) := fx_sA _ _ (by simp)
      have c2 := CN_fx cs f2 (by decide) (by decide)
      have e2 : ∀ j, j < 3 → gI (sA s 54 (adT (gI s 54) (gI s (21 + 1)) c 1 3)) 54 j = adR (itr (srS f r (nI t) c) i (srC f r (nI t) p c)).2.2 f c r j := fun j hj => by
        rw [gI_sA, if_pos rfl]
        unfold adT adR
        rw [if_pos hj, es j hj]
        show _ + 1 * gI s 22 (3 * c + j) = _
        rw [cs.2.2.1, Int32.one_mul]
        by_cases g : j < r
        · rw [if_pos g]
        · rw [if_neg g, (hZ j (by omega) hj).2 c (by omega), Int32.add_zero]
      revert f2 c2 e2
      generalize sA s 54 (adT (gI s 54) (gI s (21 + 1)) c 1 3) = s2
      intro f2 c2 e2
      have f02 := fx_trans fs f2
      rw [X_r50_0 c2.1, X_r50_5 c2.1]
      refine ⟨X_k50 c2.1, c2.2.1.1.1, t_Co_strayAt c2.2.1.1 (X_k54 c2.1) (X_n54 c2.1) (t_max ?_)⟩
      have zz := zero c _ hc z1
      have e3 : mx (fun j => ab (gI s2 50 12 * gI s2 54 j - (k + 1) * gI s2 (21 + 1) (32 + j))) 3 = nSt f r (adR (itr (srS f r (nI t) c) i (srC f r (nI t) p c)).2.2 f c r) (nI ((itr (srS f r (nI t) c) i (srC f r (nI t) p c)).2.1 + 1)) (nI t) := by
        rw [← nSt_3 hr hZ zz]
        refine mx_congr (fun j hj => ?_)
        show ab (gI s2 50 12 * gI s2 54 j - (k + 1) * gI s2 22 (32 + j)) = _
        rw [c2.2.2.1, e2 j hj, fx_I f02 (x := 50) (by decide), hT, ek, nI_1]
      rw [e3, ea, ek, nI_1]
      exact ih2 (_, _, s2) ⟨f02, rfl, rfl, e2, zz⟩
/-- the kept best plan stands -/
def VO (f : Nat → Int32) (r n s : Nat) (h : Hp) : Prop := match opR f r n (s + 1) with
  | none => gI h 50 10 = 0
  | some x => gI h 50 10 = 1 ∧ gI h 50 11 = x.2.1 ∧ gI h 50 12 = nI x.2.2 ∧ (∀ j, j < n → gI h 51 j = nI (x.1.getD j 0)) ∧ gI h 50 13 = sfT f r n x.1 (nI x.2.2) 0 ∧ (∀ i, i < x.2.2 → gI h 53 i = nI (wlk x.1 (sfT f r n x.1 (nI x.2.2)) n (i + 1)).2) ∧ gI h 50 14 = (srC f r (nI x.2.2) x.1 n).1
/-- what is kept is right, if its stamp is the newest -/
def KO (f : Nat → Int32) (r n s b : Nat) (h : Hp) : Prop := gI h 50 8 = 0 ∨ ∃ a, a ≤ b ∧ gI h 50 9 = nI a ∧ (a = b → VO f r n s h)
theorem VO_fx {f : Nat → Int32} {r n s : Nat} {as js : List Nat} {h' : Hp} (a : VO f r n s h) (x : Fx as js h h') (h1 : 50 ∉ as) (h2 : 51 ∉ as) (h3 : 53 ∉ as) : VO f r n s h' := by
  unfold VO at a ⊢
  rw [fx_I x h1, fx_I x h2, fx_I x h3]
  exact a
theorem t_Op_find {f : Nat → Int32} {r n s b : Nat} {Q : Bool → Hp → Prop} (c0 : CN f r n h) (hs : f 35 = nI s) (hs2 : s ≤ 12) (hb : gI h 21 3 = nI b) (hb2 : b < 2 ^ 31) (ko : KO f r n s b h) (hq : ∀ h', Fx [35, 36, 37, 38, 39, 40, 41, 50, 51, 52, 53, 54, 55] [] h h' → VO f r n s h' → KO f r n s b h' → Q (opR f r n (s + 1)).isSome h') : w_Op_find 50 h Q := by
  have m := c0.1
  have lay : w_Op_find_B21 Q 50 h := by
    unfold w_Op_find_B21
    rw [X_r50_0 m, gI_sI, if_neg (by decide), hb]
    have f1 : Fx [50] [] h (sI (sI h 50 8 1) 50 9 (nI b)) := fx_trans (fx_sI _ _ (by simp)) (fx_sI _ _ (by simp))
    refine ⟨X_k50 m, c0.2.1.1.1, t_Op_findPlan (CN_fx c0 f1 (by decide) (by decide)) hs hs2 (fun h4 f4 k8 k9 op => ?_)⟩
    have f04 : Fx [35, 36, 37, 38, 39, 40, 41, 50, 51, 52, 53, 54, 55] [] h h4 := fx_trans (fx_mono f1 (by simp) (by simp)) (fx_mono f4 (by simp) (by simp))
    have c4 := CN_fx c0 f04 (by decide) (by decide)
    have k9' : gI h4 50 9 = nI b := by rw [k9, gI_sI, if_pos ⟨rfl, rfl⟩]
    have os := opR_some (f := f) (r := r) (n := n) (s + 1)
    have fin := hq
    unfold VO KO VO at fin
    cases eo : opR f r n (s + 1) with
    | none =>
      rw [eo] at op fin
      have o1 : gI h4 50 10 = 0 := op
      rw [o1]
      refine ⟨X_k50 c4.1, fun _ => ⟨Or.inl rfl, ?_⟩, fun z => absurd rfl z⟩
      exact fin h4 f04 o1 (Or.inr ⟨b, Nat.le_refl _, k9', fun _ => o1⟩)
    | some x =>
      rw [eo] at op fin
      obtain ⟨o1, o2, o3, o4⟩ := op
      obtain ⟨x1, x2, -, -⟩ := os x eo
      have xm := PL_mem x1
      have x12 : ∀ j, x.1.getD j 0 ≤ 12 := fun j => by
        have := getD_le_sum x.1 j
        omega
      rw [o1]
      refine ⟨X_k50 c4.1, fun z => absurd z (by decide), fun _ => t_Op_findOrder c4 x1 (by omega) o4 o3 (fun h7 f7 q8 q9 q10 q11 q12 q13 q53 => ?_)⟩
      have f07 : Fx [35, 36, 37, 38, 39, 40, 41, 50, 51, 52, 53, 54, 55] [] h h7 := fx_trans f04 (fx_mono f7 (by simp) (by simp))
      have c7 := CN_fx c0 f07 (by decide) (by decide)
      have o47 : ∀ j, j < n → gI h7 51 j = nI (x.1.getD j 0) := by rw [fx_I f7 (x := 51) (by decide)]; exact o4
      refine ⟨X_k50 c7.1, t_Op_straySorted c7 (q12.trans o3) o47 x12 (fun h8 f8 => ?_)⟩
      have c8 := CN_fx c7 f8 (by decide) (by decide)
      have k50 : ∀ k, k ≠ 14 → gI (sI h8 50 14 (srC f r (nI x.2.2) x.1 n).1) 50 k = gI h7 50 k := fun k hk => by
        rw [gI_sI, if_neg (fun y => hk y.2), fx_I f8 (x := 50) (by decide)]
      have f09 : Fx [35, 36, 37, 38, 39, 40, 41, 50, 51, 52, 53, 54, 55] [] h (sI h8 50 14 (srC f r (nI x.2.2) x.1 n).1) := fx_trans f07 (fx_trans (fx_mono f8 (by simp) (by simp)) (fx_sI _ _ (by simp)))
      have vo : gI (sI h8 50 14 (srC f r (nI x.2.2) x.1 n).1) 50 10 = 1 ∧ gI (sI h8 50 14 (srC f r (nI x.2.2) x.1 n).1) 50 11 = x.2.1 ∧ gI (sI h8 50 14 (srC f r (nI x.2.2) x.1 n).1) 50 12 = nI x.2.2 ∧ (∀ j, j < n → gI (sI h8 50 14 (srC f r (nI x.2.2) x.1 n).1) 51 j = nI (x.1.getD j 0)) ∧ gI (sI h8 50 14 (srC f r (nI x.2.2) x.1 n).1) 50 13 = sfT f r n x.1 (nI x.2.2) 0 ∧ (∀ i, i < x.2.2 → gI (sI h8 50 14 (srC f r (nI x.2.2) x.1 n).1) 53 i = nI (wlk x.1 (sfT f r n x.1 (nI x.2.2)) n (i + 1)).2) ∧ gI (sI h8 50 14 (srC f r (nI x.2.2) x.1 n).1) 50 14 = (srC f r (nI x.2.2) x.1 n).1 := by
        refine ⟨?_, ?_, ?_, fun j hj => ?_, ?_, fun i hi => ?_, ?_⟩
        · rw [k50 10 (by decide), q10]; exact o1
        · rw [k50 11 (by decide), q11]; exact o2
        · rw [k50 12 (by decide), q12]; exact o3
        · rw [gI_sI, if_neg (fun y => absurd y.1 (by decide)), fx_I f8 (x := 51) (by decide)]; exact o47 j hj
        · rw [k50 13 (by decide)]; exact q13
        · rw [gI_sI, if_neg (fun y => absurd y.1 (by decide)), fx_I f8 (x := 53) (by decide)]; exact q53 i hi
        · rw [gI_sI, if_pos ⟨rfl, rfl⟩]
      rw [vo.1]
      refine ⟨X_k50 c8.1, Or.inr rfl, ?_⟩
      exact fin _ f09 vo (Or.inr ⟨b, Nat.le_refl _, by rw [k50 9 (by decide), q9]; exact k9', fun _ => vo⟩)
  unfold w_Op_find
  refine ⟨X_k50 m, fun _ => lay, fun z => ?_⟩
  rw [X_r50_0 m, hb]
  rcases ko with k | ⟨a, ha, ka, kv⟩
  · exact absurd k z
  · rw [ka]
    refine ⟨c0.2.1.1.1, fun y => ?_, fun _ => lay⟩
    have e : a = b := (nI_eq (by omega) (by omega)).mp y
    have vo := kv e
    have fin := hq h (fx_refl _ _ _) vo (Or.inr ⟨a, ha, ka, kv⟩)
    unfold VO at vo
    cases eo : opR f r n (s + 1) with
    | none =>
      rw [eo] at vo fin
      rw [show gI h 50 10 = 0 from vo]
      exact ⟨Or.inl rfl, fin⟩
    | some x =>
      rw [eo] at vo fin
      rw [vo.1]
      exact ⟨Or.inr rfl, fin⟩
