/-! The reference's exchange is the best one, too -/
theorem foldl_at {α β : Type} {F : β → α → β} (d : α) : ∀ (l : List α) (P : Nat → β → Prop) (x : β), (∀ k x, k < l.length → P k x → P (k + 1) (F x (l.getD k d))) → P 0 x → P l.length (l.foldl F x) := by
  intro l
  induction l with
  | nil => intro P x _ h; exact h
  | cons a l ih =>
    intro P x h0 h1
    exact ih (fun k => P (k + 1)) (F x a) (fun k x hk hp => h0 (k + 1) x (Nat.succ_lt_succ hk) hp) (h0 0 x (Nat.succ_pos _) h1)
theorem PL_at {n b k : Nat} (hn : n ≤ 8) (hb : b ≤ 3) (hk : k < (xV n b).length) : (PL n b).getD k [] = xP n (xM n (xS n b + k)) := by
  rw [← xV_PL n hn b hb, xM_s n hn b hb k hk, List.getD_eq_getElem?_getD, List.getD_eq_getElem?_getD, List.getElem?_map, List.getElem?_eq_getElem hk]
  rfl
theorem PL_ln {n b : Nat} (hn : n ≤ 8) (hb : b ≤ 3) : (PL n b).length = (xV n b).length := by
  rw [← xV_PL n hn b hb, List.length_map]
def RX (f : Nat → Int32) (n : Nat) (x : XT) : Option CT → Prop
  | none => x.1 = 0 ∧ x.2.1 = -1
  | some c => x.1 = xG f n c.2.2.1 c.2.2.2 ∧ x.2.1 = nI c.1 ∧ x.2.2.1 = nI c.2.1 ∧ x.2.2.2.1 = (fun j => nI ((xP n (xM n c.2.2.1)).getD j 0)) ∧ x.2.2.2.2 = (fun j => nI ((xP n (xM n c.2.2.2)).getD j 0))
theorem ly_up {c : CT} {a b i j : Nat} : ly c (a, b, i, j + 1) ↔ ly c (a, b, i, j) ∨ c = (a, b, i, j) := by
  obtain ⟨c1, c2, c3, c4⟩ := c
  rw [Prod.mk.injEq, Prod.mk.injEq, Prod.mk.injEq]
  unfold ly
  dsimp only
  omega
theorem Bst_T {ok : CT → Prop} {g : CT → Int} {o : Option CT} {a b i j : Nat} (B : Bst g (fun c => ok c ∧ ly c (a, b, i, j)) o) : ((¬ ok (a, b, i, j) ∨ ¬ tkY g (a, b, i, j) o) → Bst g (fun c => ok c ∧ ly c (a, b, i, j + 1)) o) ∧ (ok (a, b, i, j) → tkY g (a, b, i, j) o → Bst g (fun c => ok c ∧ ly c (a, b, i, j + 1)) (some (a, b, i, j))) := by
  have E : ok (a, b, i, j) → ∀ c, (ok c ∧ ly c (a, b, i, j + 1)) ↔ ((ok c ∧ ly c (a, b, i, j)) ∨ c = (a, b, i, j)) := fun y c => by
    rw [ly_up]
    constructor
    · rintro ⟨h1, h2 | h2⟩
      · exact Or.inl ⟨h1, h2⟩
      · exact Or.inr h2
    · rintro (⟨h1, h2⟩ | rfl)
      · exact ⟨h1, Or.inl h2⟩
      · exact ⟨y, Or.inr rfl⟩
  refine ⟨fun e => ?_, fun y e => Bst_eq (Bst_y1 B e) (E y)⟩
  by_cases y : ok (a, b, i, j)
  · rcases e with e | e
    · exact absurd y e
    · exact Bst_eq (Bst_y0 B (fun d hd => hd.2) e) (E y)
  · refine Bst_eq B (fun c => ?_)
    rw [ly_up]
    constructor
    · rintro ⟨h1, h2 | rfl⟩
      · exact ⟨h1, h2⟩
      · exact absurd h1 y
    · exact fun ⟨h1, h2⟩ => ⟨h1, Or.inl h2⟩
def ZI (f : Nat → Int32) (r n mo a i b j : Nat) (x : XT) : Prop := ∃ o, RX f n x o ∧ Bst (gm f n) (fun c => okX f r n mo c ∧ ly c (a, b, i, j)) o
theorem ZI_eq {f : Nat → Int32} {r n mo a i b j a' i' b' j' : Nat} {x : XT} (z : ZI f r n mo a i b j x) (e : ∀ c, okX f r n mo c → (ly c (a', b', i', j') ↔ ly c (a, b, i, j))) : ZI f r n mo a' i' b' j' x := by
  obtain ⟨o, z1, z2⟩ := z
  exact ⟨o, z1, Bst_eq z2 (fun c => ⟨fun g => ⟨g.1, (e c g.1).mp g.2⟩, fun g => ⟨g.1, (e c g.1).mpr g.2⟩⟩)⟩
theorem ZI_q {f : Nat → Int32} {r n mo a i b j : Nat} {x : XT} (hmo : mo ≤ 3) (ha : a ≤ mo) (hb : b ≤ mo) (hi1 : xS n a ≤ i) (hi2 : i < xS n (a + 1)) (hj1 : xS n b ≤ j) (hj2 : j < xS n (b + 1)) (hg : canG f n (xP n (xM n i)) = true) (z : ZI f r n mo a i b j x) : ZI f r n mo a i b (j + 1) (exQ f r n a (xP n (xM n i)) b x (xP n (xM n j))) := by
  obtain ⟨o, z1, z2⟩ := z
  obtain ⟨s0, s1⟩ := Bst_T z2
  have okk : okX f r n mo (a, b, i, j) ↔ canC f r n (xP n (xM n i)) (xP n (xM n j)) = true := ⟨fun g => g.2.2.2.2.2, fun g => ⟨ha, hb, ⟨hi1, hi2⟩, ⟨hj1, hj2⟩, hg, g⟩⟩
  have tk : (x.1 < pG f (xP n (xM n j)) n - pG f (xP n (xM n i)) n ∨ (pG f (xP n (xM n j)) n - pG f (xP n (xM n i)) n = x.1 ∧ x.2.1 = nI a ∧ ¬ x.2.2.1 ≤ nI b)) ↔ tkY (gm f n) (a, b, i, j) o := by
    cases o with
    | none =>
      rw [z1.1, z1.2]
      constructor
      · rintro (g | ⟨-, g, -⟩)
        · exact Int32.lt_iff_toInt_lt.mp g
        · have g2 := congrArg Int32.toInt g
          rw [nI_toInt (by omega), show (-1 : Int32).toInt = -1 from rfl] at g2
          omega
      · exact fun g => Or.inl (Int32.lt_iff_toInt_lt.mpr g)
    | some d =>
      have od := z2.1.1
      have d1 := od.1
      have d2 := od.2.1
      rw [z1.1, z1.2.1, z1.2.2.1, Int32.lt_iff_toInt_lt, ← Int32.toInt_inj, nI_eq (by omega) (by omega), nI_leI (by omega) (by omega), Nat.not_le]
      exact Iff.rfl
  unfold exQ
  by_cases c : canC f r n (xP n (xM n i)) (xP n (xM n j)) = true ∧ (x.1 < pG f (xP n (xM n j)) n - pG f (xP n (xM n i)) n ∨ (pG f (xP n (xM n j)) n - pG f (xP n (xM n i)) n = x.1 ∧ x.2.1 = nI a ∧ ¬ x.2.2.1 ≤ nI b))
  · rw [if_pos c]
    exact ⟨some (a, b, i, j), ⟨rfl, rfl, rfl, rfl, rfl⟩, s1 (okk.mpr c.1) (tk.mp c.2)⟩
  · rw [if_neg c]
    refine ⟨o, z1, s0 ?_⟩
    by_cases y : okX f r n mo (a, b, i, j)
    · exact Or.inr (fun g => c ⟨okk.mp y, tk.mpr g⟩)
    · exact Or.inl y
