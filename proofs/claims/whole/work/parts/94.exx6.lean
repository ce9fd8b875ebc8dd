/-! The class looks for the best exchange: all sizes -/
variable {h : Hp}
theorem t_Ex_compareSizes {f : Nat → Int32} {r n mo a b : Nat} {Q : Hp → Prop} {s : Hp} (c0 : CN f r n h) (hB : HB f n) (ex : EX f n (xS n 4) h) (es : ES n 5 h) (hmo : mo ≤ 3) (ha : a ≤ mo) (hb : b ≤ mo) (y : YI f r n mo h a b (xS n a) (xS n b) s) (hq : ∀ s', YI f r n mo h a (b + 1) (xS n a) (xS n (b + 1)) s' → Q s') : w_Ex_compareSizes 60 (nI a) (nI b) s Q := by
  have hn := c0.2.1.2.2.2.2.2
  have l4 := xS_le n hn 4 (by omega)
  have u1 := xS_mo n hn 4 (by omega) (a + 1) (by omega)
  have u2 := xS_mo n hn 4 (by omega) (b + 1) (by omega)
  have u3 := xS_up n hn a (by omega)
  have f1 := y.1
  have m1 := fx_XS f1 c0.1
  have e1 : ES n 5 s := fun j hj => by rw [fx_I f1 (by decide)]; exact es j hj
  unfold w_Ex_compareSizes
  rw [X_r60_1 m1, X_n61 m1, ix_nI (by omega), e1 a (by omega)]
  refine ⟨X_k60 m1, X_k61 m1, vp_in_nI (by omega) (by omega), ?_⟩
  have key := loop_0 (fun w k s' => w_Ex_compareSizes_L7 Q 60 (nI a) (nI b) w (nI (xS n a + k)) s') (fun k s' => YI f r n mo h a b (xS n a + k) (xS n b) s') (xS n (a + 1) - xS n a) s y ?_ ?_
  · exact key
  · rintro w s2 y2
    have f2 := y2.1
    have m2 := fx_XS f2 c0.1
    have e2 : ES n 5 s2 := fun j hj => by rw [fx_I f2 (by decide)]; exact es j hj
    rw [show xS n a + (xS n (a + 1) - xS n a) = xS n (a + 1) by omega] at y2 ⊢
    unfold w_Ex_compareSizes_L7
    rw [X_r60_1 m2, X_n61 m2, nI_1, ix_nI (by omega), e2 (a + 1) (by omega)]
    refine ⟨X_k60 m2, X_k61 m2, vp_in_nI (by omega) (by omega), fun _ => hq s2 (YI_eq y2 (fun c oc => ?_)), fun z => absurd (Int32.le_refl _) z⟩
    obtain ⟨c1, c2, c3, c4⟩ := c
    obtain ⟨-, -, o3, o4, -, -⟩ := oc
    unfold lx
    dsimp only at o3 o4 ⊢
    constructor
    · rintro (g | ⟨rfl, g | ⟨rfl, g | g⟩⟩)
      · exact Or.inl g
      · refine Or.inr ⟨rfl, ?_⟩
        by_cases e : c2 = b
        · subst e
          exact Or.inr ⟨rfl, Or.inl o3.2⟩
        · exact Or.inl (by omega)
      · omega
      · omega
    · rintro (g | ⟨rfl, g | ⟨rfl, g | g⟩⟩)
      · exact Or.inl g
      · exact Or.inr ⟨rfl, Or.inl (by omega)⟩
      · exact Or.inr ⟨rfl, Or.inl (by omega)⟩
      · exact Or.inr ⟨rfl, Or.inl (by omega)⟩
  · rintro w k s2 hk y2 ih
    have f2 := y2.1
    have c2 := CN_fx c0 f2 (by decide) (by decide)
    have m2 := c2.1
    have x2 : EX f n (xS n 4) s2 := EX_fx ex f2 (by decide) (by decide) (by decide)
    have e2 : ES n 5 s2 := fun j hj => by rw [fx_I f2 (by decide)]; exact es j hj
    unfold w_Ex_compareSizes_L7
    rw [X_r60_1 m2, X_n61 m2, nI_1 (a := a), ix_nI (by omega), e2 (a + 1) (by omega)]
    refine ⟨X_k60 m2, X_k61 m2, vp_in_nI (by omega) (by omega), fun z => absurd z (nI_ge (by omega) (by omega)), fun _ => t_Ex_isHeld c2 hB x2 (by omega) ⟨fun z => ?_, fun z => ?_⟩⟩
    · rw [nI_1]
      refine ih s2 (YI_eq y2 (fun c oc => ?_))
      obtain ⟨c1, c2, c3, c4⟩ := c
      obtain ⟨-, -, o3, o4, o5, -⟩ := oc
      unfold lx
      dsimp only at o3 o4 o5 ⊢
      have ne : c3 ≠ xS n a + k := fun g => by rw [g, z] at o5; cases o5
      constructor
      · rintro (g | ⟨rfl, g | ⟨rfl, g | g⟩⟩)
        · exact Or.inl g
        · exact Or.inr ⟨rfl, Or.inl g⟩
        · exact Or.inr ⟨rfl, Or.inr ⟨rfl, by omega⟩⟩
        · omega
      · rintro (g | ⟨rfl, g | ⟨rfl, g | g⟩⟩)
        · exact Or.inl g
        · exact Or.inr ⟨rfl, Or.inl g⟩
        · exact Or.inr ⟨rfl, Or.inr ⟨rfl, by omega⟩⟩
        · omega
    · rw [X_r60_1 m2, X_n61 m2, ix_nI (by omega), e2 b (by omega)]
      refine ⟨X_k60 m2, X_k61 m2, vp_in_nI (by omega) (by omega), t_cmp_in c0 hB ex es hmo ha hb (by omega) (by omega) (ntf z) y2 (fun s3 y3 => ?_)⟩
      rw [nI_1]
      refine ih s3 (YI_eq y3 (fun c oc => ?_))
      obtain ⟨c1, c2, c3, c4⟩ := c
      obtain ⟨-, -, o3, o4, o5, -⟩ := oc
      unfold lx
      dsimp only at o3 o4 o5 ⊢
      constructor
      · rintro (g | ⟨rfl, g | ⟨rfl, g | g⟩⟩)
        · exact Or.inl g
        · exact Or.inr ⟨rfl, Or.inl g⟩
        · exact Or.inr ⟨rfl, Or.inr ⟨rfl, by omega⟩⟩
        · omega
      · rintro (g | ⟨rfl, g | ⟨rfl, g | g⟩⟩)
        · exact Or.inl g
        · exact Or.inr ⟨rfl, Or.inl g⟩
        · exact Or.inr ⟨rfl, Or.inr ⟨rfl, by omega⟩⟩
        · exact Or.inr ⟨rfl, Or.inr ⟨rfl, by omega⟩⟩
theorem t_Ex_findBest {f : Nat → Int32} {r n mo : Nat} {Q : Hp → Prop} (c0 : CN f r n h) (hB : HB f n) (ex : EX f n (xS n 4) h) (es : ES n 5 h) (hmo : mo ≤ 3) (hq : ∀ h' o, Fx [60] [] h h' → (∀ k, k < 8 → gI h' 60 k = gI h 60 k) → YB f n h' o → Bst (gm f n) (okX f r n mo) o → Q h') : w_Ex_findBest 60 (nI mo) h Q := by
  have m := c0.1
  unfold w_Ex_findBest
  refine ⟨X_k60 m, ?_⟩
  have f1 : Fx [60] [] h (sI (sI (sI h 60 8 0) 60 11 0) 60 12 0) := fx_trans (fx_sI _ _ (by simp)) (fx_trans (fx_sI _ _ (by simp)) (fx_sI _ _ (by simp)))
  have y1 : YI f r n mo h 0 0 (xS n 0) (xS n 0) (sI (sI (sI h 60 8 0) 60 11 0) 60 12 0) := by
    refine ⟨f1, fun k hk => ?_, none, rfl, ?_⟩
    · rw [gI_sI, if_neg (by omega), gI_sI, if_neg (by omega), gI_sI, if_neg (by omega)]
    · rintro ⟨c1, c2, c3, c4⟩ ⟨-, l⟩
      unfold lx at l
      have : xS n 0 = 0 := rfl
      dsimp only at l
      omega
  revert y1
  generalize sI (sI (sI h 60 8 0) 60 11 0) 60 12 0 = h1
  intro y1
  refine loop_0 (fun w a s => w_Ex_findBest_L17 Q 60 (nI mo) w (nI a) s) (fun a s => YI f r n mo h a 0 (xS n a) (xS n 0) s) (mo + 1) h1 y1 ?_ ?_
  · rintro w s ⟨y1, y2, o, y3, y4⟩
    unfold w_Ex_findBest_L17
    refine ⟨fun _ => hq s o y1 y2 y3 (Bst_eq y4 (fun c => ⟨fun g => ⟨g, Or.inl ?_⟩, fun g => g.1⟩)), fun z => absurd (nI_lt (by omega) (by omega)) z⟩
    have := g.1
    show c.1 < mo + 1
    omega
  · rintro w a s ha y ih
    unfold w_Ex_findBest_L17
    refine ⟨fun z => absurd z (nI_nlt (by omega) (by omega)), fun _ => ?_⟩
    refine loop_0 (fun v b s' => w_Ex_findBest_L24 Q (w_Ex_findBest_L17 Q 60 (nI mo) w) 60 (nI mo) (nI a) v (nI b) s') (fun b s' => YI f r n mo h a b (xS n a) (xS n b) s') (mo + 1) s y ?_ ?_
    · rintro v s2 y2
      unfold w_Ex_findBest_L24
      rw [nI_1]
      refine ⟨fun _ => ih s2 (YI_eq y2 (fun c oc => ?_)), fun z => absurd (nI_lt (by omega) (by omega)) z⟩
      obtain ⟨c1, c2, c3, c4⟩ := c
      obtain ⟨-, o2, o3, o4, -, -⟩ := oc
      unfold lx
      have : xS n 0 = 0 := rfl
      dsimp only at o2 o3 o4 ⊢
      constructor
      · rintro (g | ⟨rfl, g⟩)
        · omega
        · omega
      · rintro (g | ⟨rfl, g⟩)
        · exact Or.inl (by omega)
        · exact Or.inl (by omega)
    · rintro v b s2 hb y2 ih2
      have m2 := fx_XS y2.1 m
      unfold w_Ex_findBest_L24
      refine ⟨fun z => absurd z (nI_nlt (by omega) (by omega)), fun _ => ⟨X_k60 m2, t_Ex_compareSizes c0 hB ex es hmo (by omega) (by omega) y2 (fun s3 y3 => ?_)⟩⟩
      rw [nI_1]
      exact ih2 s3 y3
