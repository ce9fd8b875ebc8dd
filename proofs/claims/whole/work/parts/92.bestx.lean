/-! The best exchange, in whatever order it is looked for -/
abbrev CT : Type := Nat × Nat × Nat × Nat
/-- one before another: by what goes and comes in size, then by the plans -/
def lx (c d : CT) : Prop := c.1 < d.1 ∨ (c.1 = d.1 ∧ (c.2.1 < d.2.1 ∨ (c.2.1 = d.2.1 ∧ (c.2.2.1 < d.2.2.1 ∨ (c.2.2.1 = d.2.2.1 ∧ c.2.2.2 < d.2.2.2)))))
def ly (c d : CT) : Prop := c.1 < d.1 ∨ (c.1 = d.1 ∧ (c.2.2.1 < d.2.2.1 ∨ (c.2.2.1 = d.2.2.1 ∧ (c.2.1 < d.2.1 ∨ (c.2.1 = d.2.1 ∧ c.2.2.2 < d.2.2.2)))))
def wsX (g : CT → Int) (c d : CT) : Prop := g c < g d ∨ (g c = g d ∧ lx d c)
def Bst (g : CT → Int) (S : CT → Prop) : Option CT → Prop
  | none => ∀ c, S c → ¬ 0 < g c
  | some d => S d ∧ 0 < g d ∧ ∀ c, S c → c = d ∨ wsX g c d
theorem lx_tr {a b c : CT} (h1 : lx a b) (h2 : lx b c) : lx a c := by
  unfold lx at *
  omega
theorem wsX_tr {g : CT → Int} {a b c : CT} (h1 : wsX g a b) (h2 : wsX g b c) : wsX g a c := by
  unfold wsX at *
  rcases h1 with h1 | ⟨h1, h3⟩
  · rcases h2 with h2 | ⟨h2, h4⟩
    · exact Or.inl (by omega)
    · exact Or.inl (by omega)
  · rcases h2 with h2 | ⟨h2, h4⟩
    · exact Or.inl (by omega)
    · exact Or.inr ⟨by omega, lx_tr h4 h3⟩
theorem wsX_ir {g : CT → Int} {a : CT} (h : wsX g a a) : False := by
  unfold wsX lx at h
  omega
theorem Bst_un {g : CT → Int} {S : CT → Prop} {o o' : Option CT} (h1 : Bst g S o) (h2 : Bst g S o') : o = o' := by
  cases o with
  | none =>
    cases o' with
    | none => rfl
    | some d => exact absurd h2.2.1 (h1 d h2.1)
  | some c =>
    cases o' with
    | none => exact absurd h1.2.1 (h2 c h1.1)
    | some d =>
      rcases h1.2.2 d h2.1 with e | e
      · rw [e]
      · rcases h2.2.2 c h1.1 with e2 | e2
        · rw [e2]
        · exact absurd (wsX_tr e e2) wsX_ir
theorem Bst_eq {g : CT → Int} {S S' : CT → Prop} {o : Option CT} (h1 : Bst g S o) (e : ∀ c, S' c ↔ S c) : Bst g S' o := by
  have : S' = S := funext (fun c => propext (e c))
  rw [this]
  exact h1
/-- one more, none of which is behind it -/
theorem Bst_no {g : CT → Int} {S : CT → Prop} {o : Option CT} {c : CT} (h1 : Bst g S o) (h2 : o = none → ¬ 0 < g c) (h3 : ∀ d, o = some d → wsX g c d) : Bst g (fun x => S x ∨ x = c) o := by
  cases o with
  | none =>
    rintro x (hx | rfl)
    · exact h1 x hx
    · exact h2 rfl
  | some d =>
    refine ⟨Or.inl h1.1, h1.2.1, ?_⟩
    rintro x (hx | rfl)
    · exact h1.2.2 x hx
    · exact Or.inr (h3 d rfl)
theorem Bst_ye {g : CT → Int} {S : CT → Prop} {o : Option CT} {c : CT} (h1 : Bst g S o) (h2 : 0 < g c) (h3 : ∀ d, o = some d → wsX g d c) : Bst g (fun x => S x ∨ x = c) (some c) := by
  refine ⟨Or.inr rfl, h2, ?_⟩
  rintro x (hx | rfl)
  · cases o with
    | none =>
      have := h1 x hx
      exact Or.inr (Or.inl (by omega))
    | some d =>
      have w := h3 d rfl
      rcases h1.2.2 x hx with e | e
      · rw [e]; exact Or.inr w
      · exact Or.inr (wsX_tr e w)
  · exact Or.inl rfl
/-- looked for in the one order -/
def crO (g : CT → Int) : Option CT → Int
  | none => 0
  | some d => g d
theorem Bst_x {g : CT → Int} {S : CT → Prop} {o : Option CT} {c : CT} (h1 : Bst g S o) (hS : ∀ d, S d → lx d c) : Bst g (fun x => S x ∨ x = c) (if crO g o < g c then some c else o) := by
  cases o with
  | none =>
    by_cases e : crO g none < g c
    · rw [if_pos e]
      exact Bst_ye h1 e (fun d hd => by cases hd)
    · rw [if_neg e]
      exact Bst_no h1 (fun _ => e) (fun d hd => by cases hd)
  | some d =>
    have hp := h1.2.1
    by_cases e : crO g (some d) < g c
    · have e' : g d < g c := e
      rw [if_pos e]
      exact Bst_ye h1 (by omega) (fun d' hd => by cases hd; exact Or.inl e)
    · have e' : ¬ g d < g c := e
      rw [if_neg e]
      refine Bst_no h1 (fun hd => by cases hd) (fun d' hd => ?_)
      cases hd
      have := hS d h1.1
      by_cases e2 : g c = g d
      · exact Or.inr ⟨e2, this⟩
      · exact Or.inl (by omega)
/-- looked for in the other order -/
def tkY (g : CT → Int) (c : CT) : Option CT → Prop
  | none => 0 < g c
  | some d => g d < g c ∨ (g c = g d ∧ d.1 = c.1 ∧ c.2.1 < d.2.1)
theorem Bst_y1 {g : CT → Int} {S : CT → Prop} {o : Option CT} {c : CT} (h1 : Bst g S o) (e : tkY g c o) : Bst g (fun x => S x ∨ x = c) (some c) := by
  cases o with
  | none => exact Bst_ye h1 e (fun d hd => by cases hd)
  | some d =>
    have hp := h1.2.1
    unfold tkY at e
    dsimp only at e
    refine Bst_ye h1 (by omega) (fun d' hd => ?_)
    cases hd
    unfold wsX lx
    omega
theorem Bst_y0 {g : CT → Int} {S : CT → Prop} {o : Option CT} {c : CT} (h1 : Bst g S o) (hS : ∀ d, S d → ly d c) (e : ¬ tkY g c o) : Bst g (fun x => S x ∨ x = c) o := by
  cases o with
  | none => exact Bst_no h1 (fun _ => e) (fun d hd => by cases hd)
  | some d =>
    have hp := h1.2.1
    unfold tkY at e
    dsimp only at e
    refine Bst_no h1 (fun hd => by cases hd) (fun d' hd => ?_)
    cases hd
    have := hS d h1.1
    unfold ly at this
    unfold wsX lx
    omega
