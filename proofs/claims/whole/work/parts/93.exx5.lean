/-! The class looks for the best exchange -/
variable {h : Hp}
theorem lx_up {c : CT} {a b i j : Nat} : lx c (a, b, i, j + 1) ↔ lx c (a, b, i, j) ∨ c = (a, b, i, j) := by
  obtain ⟨c1, c2, c3, c4⟩ := c
  rw [Prod.mk.injEq, Prod.mk.injEq, Prod.mk.injEq]
  unfold lx
  dsimp only
  omega
theorem Bst_S {ok : CT → Prop} {g : CT → Int} {o : Option CT} {a b i j : Nat} (B : Bst g (fun c => ok c ∧ lx c (a, b, i, j)) o) : ((¬ ok (a, b, i, j) ∨ ¬ crO g o < g (a, b, i, j)) → Bst g (fun c => ok c ∧ lx c (a, b, i, j + 1)) o) ∧ (ok (a, b, i, j) → crO g o < g (a, b, i, j) → Bst g (fun c => ok c ∧ lx c (a, b, i, j + 1)) (some (a, b, i, j))) := by
  have no : ¬ ok (a, b, i, j) → Bst g (fun c => ok c ∧ lx c (a, b, i, j + 1)) o := fun n => Bst_eq B (fun c => by
    rw [lx_up]
    constructor
    · rintro ⟨h1, h2 | rfl⟩
      · exact ⟨h1, h2⟩
      · exact absurd h1 n
    · exact fun ⟨h1, h2⟩ => ⟨h1, Or.inl h2⟩)
  have ye : ok (a, b, i, j) → Bst g (fun c => ok c ∧ lx c (a, b, i, j + 1)) (if crO g o < g (a, b, i, j) then some (a, b, i, j) else o) := fun y => Bst_eq (Bst_x B (fun d hd => hd.2)) (fun c => by
    rw [lx_up]
    constructor
    · rintro ⟨h1, h2 | h2⟩
      · exact Or.inl ⟨h1, h2⟩
      · exact Or.inr h2
    · rintro (⟨h1, h2⟩ | rfl)
      · exact ⟨h1, Or.inl h2⟩
      · exact ⟨y, Or.inr rfl⟩)
  refine ⟨fun e => ?_, fun y e => ?_⟩
  · by_cases y : ok (a, b, i, j)
    · have := ye y
      rcases e with e | e
      · exact absurd y e
      · rw [if_neg e] at this
        exact this
    · exact no y
  · have := ye y
    rw [if_pos e] at this
    exact this
def xG (f : Nat → Int32) (n i j : Nat) : Int32 := pG f (xP n (xM n j)) n - pG f (xP n (xM n i)) n
def gm (f : Nat → Int32) (n : Nat) (c : CT) : Int := (xG f n c.2.2.1 c.2.2.2).toInt
/-- an exchange that may be -/
def okX (f : Nat → Int32) (r n mo : Nat) (c : CT) : Prop := c.1 ≤ mo ∧ c.2.1 ≤ mo ∧ (xS n c.1 ≤ c.2.2.1 ∧ c.2.2.1 < xS n (c.1 + 1)) ∧ (xS n c.2.1 ≤ c.2.2.2 ∧ c.2.2.2 < xS n (c.2.1 + 1)) ∧ canG f n (xP n (xM n c.2.2.1)) = true ∧ canC f r n (xP n (xM n c.2.2.1)) (xP n (xM n c.2.2.2)) = true
def YB (f : Nat → Int32) (n : Nat) (h : Hp) : Option CT → Prop
  | none => gI h 60 8 = 0
  | some c => gI h 60 8 = xG f n c.2.2.1 c.2.2.2 ∧ gI h 60 9 = nI c.1 ∧ gI h 60 10 = nI c.2.1 ∧ gI h 60 11 = nI c.2.2.1 ∧ gI h 60 12 = nI c.2.2.2
theorem YB_cr {f : Nat → Int32} {n : Nat} {o : Option CT} (y : YB f n h o) : (gI h 60 8).toInt = crO (gm f n) o := by
  cases o with
  | none =>
    have : gI h 60 8 = 0 := y
    rw [this]; rfl
  | some c => rw [y.1]; rfl
def YI (f : Nat → Int32) (r n mo : Nat) (h : Hp) (a b i j : Nat) (s : Hp) : Prop := Fx [60] [] h s ∧ (∀ k, k < 8 → gI s 60 k = gI h 60 k) ∧ ∃ o, YB f n s o ∧ Bst (gm f n) (fun c => okX f r n mo c ∧ lx c (a, b, i, j)) o
theorem YI_eq {f : Nat → Int32} {r n mo : Nat} {s : Hp} {a b i j a' b' i' j' : Nat} (y : YI f r n mo h a b i j s) (e : ∀ c, okX f r n mo c → (lx c (a', b', i', j') ↔ lx c (a, b, i, j))) : YI f r n mo h a' b' i' j' s := by
  obtain ⟨y1, y2, o, y3, y4⟩ := y
  exact ⟨y1, y2, o, y3, Bst_eq y4 (fun c => ⟨fun g => ⟨g.1, (e c g.1).mp g.2⟩, fun g => ⟨g.1, (e c g.1).mpr g.2⟩⟩)⟩
theorem xS_mo : ∀ n, n ≤ 8 → ∀ a, a ≤ 4 → ∀ b, b ≤ a → xS n b ≤ xS n a := by decide +kernel
theorem xP_mem {n s i : Nat} (hn : n ≤ 8) (hs : s ≤ 3) (h1 : xS n s ≤ i) (h2 : i < xS n (s + 1)) : xP n (xM n i) ∈ PL n s := by
  have l : xS n (s + 1) = xS n s + (xV n s).length := rfl
  have e := xM_s n hn s hs (i - xS n s) (by omega)
  rw [show xS n s + (i - xS n s) = i by omega] at e
  rw [e, ← xV_PL n hn s hs]
  refine List.mem_map.mpr ⟨_, ?_, rfl⟩
  rw [List.getD_eq_getElem?_getD, List.getElem?_eq_getElem (by omega)]
  exact List.getElem_mem _
theorem t_cmp_in {f : Nat → Int32} {r n mo a b i : Nat} {Q : Hp → Prop} {k7 : Int32 → Hp → Prop} {s : Hp} (c0 : CN f r n h) (hB : HB f n) (ex : EX f n (xS n 4) h) (es : ES n 5 h) (hmo : mo ≤ 3) (ha : a ≤ mo) (hb : b ≤ mo) (hi1 : xS n a ≤ i) (hi2 : i < xS n (a + 1)) (hg : canG f n (xP n (xM n i)) = true) (y : YI f r n mo h a b i (xS n b) s) (hq : ∀ s', YI f r n mo h a b i (xS n (b + 1)) s' → k7 (nI i + 1) s') : ∃ w, w_Ex_compareSizes_L38 Q k7 60 (nI a) (nI b) (nI i) w (nI (xS n b)) s := by
  have hn := c0.2.1.2.2.2.2.2
  have hr := c0.2.1.2.2.2.2.1
  have hF := c0.2.2.2.1
  have hZ := c0.2.2.2.2.2.2.1
  have l4 := xS_le n hn 4 (by omega)
  have u1 := xS_mo n hn 4 (by omega) (a + 1) (by omega)
  have u2 := xS_mo n hn 4 (by omega) (b + 1) (by omega)
  have u3 := xS_up n hn b (by omega)
  have key := loop_0 (fun w k s' => w_Ex_compareSizes_L38 Q k7 60 (nI a) (nI b) (nI i) w (nI (xS n b + k)) s') (fun k s' => YI f r n mo h a b i (xS n b + k) s') (xS n (b + 1) - xS n b) s y ?_ ?_
  · exact key
  · rintro w s2 y2
    have f2 := y2.1
    have m2 := fx_XS f2 c0.1
    have e2 : ES n 5 s2 := fun j hj => by rw [fx_I f2 (by decide)]; exact es j hj
    rw [show xS n b + (xS n (b + 1) - xS n b) = xS n (b + 1) by omega] at y2 ⊢
    unfold w_Ex_compareSizes_L38
    rw [X_r60_1 m2, X_n61 m2, nI_1, ix_nI (by omega), e2 (b + 1) (by omega)]
    exact ⟨X_k60 m2, X_k61 m2, vp_in_nI (by omega) (by omega), fun _ => hq s2 y2, fun z => absurd (Int32.le_refl _) z⟩
  · rintro w k s2 hk y2 ih
    have f2 := y2.1
    have c2 := CN_fx c0 f2 (by decide) (by decide)
    have m2 := c2.1
    have x2 : EX f n (xS n 4) s2 := EX_fx ex f2 (by decide) (by decide) (by decide)
    have e2 : ES n 5 s2 := fun j hj => by rw [fx_I f2 (by decide)]; exact es j hj
    obtain ⟨-, k8, o, yb, bs⟩ := y2
    obtain ⟨st0, st1⟩ := Bst_S bs
    have xi := x2 i (by omega)
    have xj := x2 (xS n b + k) (by omega)
    have cr := YB_cr yb
    have pi := xP_mem hn (by omega) hi1 hi2
    have pj := xP_mem (i := xS n b + k) hn (show b ≤ 3 by omega) (by omega) (by omega)
    have kq := ky_eq hn hr hF hZ pj pi (by omega) (by omega)
    have okk : okX f r n mo (a, b, i, xS n b + k) ↔ ky f n (xM n (xS n b + k)) = ky f n (xM n i) ∧ plB f n (xP n (xM n i)) (xP n (xM n (xS n b + k))) = true := by
      rw [kq]
      unfold okX canC plB
      dsimp only
      rw [Bool.and_eq_true]
      constructor
      · exact fun g => ⟨g.2.2.2.2.2.2, g.2.2.2.2.2.1⟩
      · exact fun g => ⟨ha, hb, ⟨hi1, hi2⟩, ⟨by omega, by omega⟩, hg, g.2, g.1⟩
    have nx : Bst (gm f n) (fun c => okX f r n mo c ∧ lx c (a, b, i, xS n b + k + 1)) o → w_Ex_compareSizes_L38 Q k7 60 (nI a) (nI b) (nI i) w (nI (xS n b + k + 1)) s2 := fun g => ih s2 ⟨f2, k8, o, yb, g⟩
    have ge : gm f n (a, b, i, xS n b + k) = (pG f (xP n (xM n (xS n b + k))) n - pG f (xP n (xM n i)) n).toInt := rfl
    unfold w_Ex_compareSizes_L38
    rw [X_r60_1 m2, X_n61 m2, nI_1 (a := b), ix_nI (by omega), e2 (b + 1) (by omega), X_r60_3 m2, X_r60_4 m2, X_n63 m2, X_n64 m2, ix_nI (by omega), ix_nI (by omega), xi.2.1, xj.2.1, xi.2.2, xj.2.2, nI_1 (a := xS n b + k)]
    refine ⟨X_k60 m2, X_k61 m2, vp_in_nI (by omega) (by omega), fun z => absurd z (nI_ge (by omega) (by omega)), fun _ => ⟨X_k63 m2, vp_in_nI (by omega) (by omega), vp_in_nI (by omega) (by omega), fun z => ⟨X_k64 m2, vp_in_nI (by omega) (by omega), vp_in_nI (by omega) (by omega), fun z2 => nx (st0 (Or.inr ?_)), fun z2 => ?_⟩, fun z => nx (st0 (Or.inl (fun g => z (okk.mp g).1)))⟩⟩
    · rw [Int32.le_iff_toInt_le, ← ge, cr] at z2
      omega
    · rw [Int32.le_iff_toInt_le, ← ge, cr] at z2
      refine t_Ex_hasPlace c2 hB x2 (by omega) (by omega) ⟨fun z3 => nx (st0 (Or.inl (fun g => ?_))), fun z3 => ?_⟩
      · rw [(okk.mp g).2] at z3
        cases z3
      · rw [X_r60_4 m2, X_n64 m2, xi.2.2, xj.2.2]
        refine ⟨X_k60 m2, X_k64 m2, vp_in_nI (by omega) (by omega), vp_in_nI (by omega) (by omega), ih _ ⟨fx_trans f2 (fx_trans (fx_sI _ _ (by simp)) (fx_trans (fx_sI _ _ (by simp)) (fx_trans (fx_sI _ _ (by simp)) (fx_trans (fx_sI _ _ (by simp)) (fx_sI _ _ (by simp)))))), fun q hq => ?_, some (a, b, i, xS n b + k), ⟨rfl, rfl, rfl, rfl, rfl⟩, st1 (okk.mpr ⟨z, ntf z3⟩) (by omega)⟩⟩
        rw [gI_sI, if_neg (by omega), gI_sI, if_neg (by omega), gI_sI, if_neg (by omega), gI_sI, if_neg (by omega), gI_sI, if_neg (by omega)]
        exact k8 q hq
