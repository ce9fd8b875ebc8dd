/-! The reference's exchange is the best one: all sizes -/
theorem ZI_B {f : Nat → Int32} {r n mo a i : Nat} {x : XT} (hn : n ≤ 8) (hmo : mo ≤ 3) (ha : a ≤ mo) (hi1 : xS n a ≤ i) (hi2 : i < xS n (a + 1)) (hg : canG f n (xP n (xM n i)) = true) (z : ZI f r n mo a i 0 0 x) : ∀ b, b ≤ mo + 1 → ZI f r n mo a i b (xS n b) (exB f r n a (xP n (xM n i)) x b) := by
  intro b
  induction b with
  | zero => intro _; exact z
  | succ b ih =>
    intro hb
    have z1 := ih (by omega)
    have l : xS n (b + 1) = xS n b + (xV n b).length := rfl
    have key := foldl_at (F := exQ f r n a (xP n (xM n i)) b) [] (PL n b) (fun k x => ZI f r n mo a i b (xS n b + k) x) (exB f r n a (xP n (xM n i)) x b) (fun k x hk hz => by
      rw [PL_ln hn (by omega)] at hk
      rw [PL_at hn (by omega) hk]
      exact ZI_q (j := xS n b + k) hmo ha (by omega) hi1 hi2 (by omega) (by omega) hg hz) z1
    rw [PL_ln hn (by omega), ← l] at key
    refine ZI_eq key (fun c oc => ?_)
    obtain ⟨c1, c2, c3, c4⟩ := c
    obtain ⟨-, -, o3, o4, -, -⟩ := oc
    unfold ly
    dsimp only at o3 o4 ⊢
    constructor
    · rintro (g | ⟨rfl, g | ⟨rfl, g | ⟨rfl, g⟩⟩⟩)
      · exact Or.inl g
      · exact Or.inr ⟨rfl, Or.inl g⟩
      · refine Or.inr ⟨rfl, Or.inr ⟨rfl, ?_⟩⟩
        by_cases e : c2 = b
        · subst e
          exact Or.inr ⟨rfl, o4.2⟩
        · exact Or.inl (by omega)
      · omega
    · rintro (g | ⟨rfl, g | ⟨rfl, g | g⟩⟩)
      · exact Or.inl g
      · exact Or.inr ⟨rfl, Or.inl g⟩
      · exact Or.inr ⟨rfl, Or.inr ⟨rfl, Or.inl (by omega)⟩⟩
      · exact Or.inr ⟨rfl, Or.inr ⟨rfl, Or.inl (by omega)⟩⟩
theorem ZI_P {f : Nat → Int32} {r n mo a i : Nat} {x : XT} (hn : n ≤ 8) (hmo : mo ≤ 3) (ha : a ≤ mo) (hi1 : xS n a ≤ i) (hi2 : i < xS n (a + 1)) (z : ZI f r n mo a i 0 0 x) : ZI f r n mo a (i + 1) 0 0 (exP f r n mo a x (xP n (xM n i))) := by
  unfold exP
  by_cases hg : canG f n (xP n (xM n i)) = true
  · rw [if_pos hg]
    refine ZI_eq (ZI_B hn hmo ha hi1 hi2 hg z (mo + 1) (Nat.le_refl _)) (fun c oc => ?_)
    have o2 := oc.2.1
    unfold ly
    dsimp only
    omega
  · rw [if_neg hg]
    refine ZI_eq z (fun c oc => ?_)
    have o5 := oc.2.2.2.2.1
    have ne : c.2.2.1 ≠ i := fun g => hg (by rw [← g]; exact o5)
    unfold ly
    dsimp only
    omega
theorem ZI_A {f : Nat → Int32} {r n mo : Nat} {x : XT} (hn : n ≤ 8) (hmo : mo ≤ 3) (hx : x.1 = 0 ∧ x.2.1 = -1) : ∀ a, a ≤ mo + 1 → ZI f r n mo a (xS n a) 0 0 (exA f r n mo x a) := by
  intro a
  induction a with
  | zero =>
    intro _
    refine ⟨none, hx, ?_⟩
    rintro ⟨c1, c2, c3, c4⟩ ⟨-, l⟩
    unfold ly at l
    have : xS n 0 = 0 := rfl
    dsimp only at l
    omega
  | succ a ih =>
    intro ha
    have z1 := ih (by omega)
    have l : xS n (a + 1) = xS n a + (xV n a).length := rfl
    have key := foldl_at (F := exP f r n mo a) [] (PL n a) (fun k x => ZI f r n mo a (xS n a + k) 0 0 x) (exA f r n mo x a) (fun k x hk hz => by
      rw [PL_ln hn (by omega)] at hk
      rw [PL_at hn (by omega) hk]
      exact ZI_P (i := xS n a + k) hn hmo (by omega) (by omega) (by omega) hz) z1
    rw [PL_ln hn (by omega), ← l] at key
    refine ZI_eq key (fun c oc => ?_)
    obtain ⟨c1, c2, c3, c4⟩ := c
    obtain ⟨-, -, o3, o4, -, -⟩ := oc
    unfold ly
    dsimp only at o3 o4 ⊢
    constructor
    · rintro (g | ⟨rfl, g⟩)
      · by_cases e : c1 = a
        · subst e
          exact Or.inr ⟨rfl, Or.inl o3.2⟩
        · exact Or.inl (by omega)
      · omega
    · rintro (g | ⟨rfl, g⟩)
      · exact Or.inl (by omega)
      · exact Or.inl (by omega)
/-- what the reference lays out is the best exchange -/
theorem ex_best {f : Nat → Int32} {r n mo : Nat} {x : XT} (hn : n ≤ 8) (hmo : mo ≤ 3) (hx : x.1 = 0 ∧ x.2.1 = -1) : ∃ o, RX f n (exA f r n mo x (mo + 1)) o ∧ Bst (gm f n) (okX f r n mo) o := by
  obtain ⟨o, z1, z2⟩ := ZI_A (f := f) (r := r) hn hmo hx (mo + 1) (Nat.le_refl _)
  refine ⟨o, z1, Bst_eq z2 (fun c => ⟨fun g => ⟨g, Or.inl ?_⟩, fun g => g.1⟩)⟩
  have := g.1
  show c.1 < mo + 1
  omega
