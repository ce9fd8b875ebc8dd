/-! Frames for the class's objects -/
variable {h : Hp}
def Fx (as js : List Nat) (h h' : Hp) : Prop := gK h' = gK h ∧ gN h' = gN h ∧ gX h' = gX h ∧ (∀ a k, ¬ (a = 35 ∧ k = 6) → gR h' a k = gR h a k) ∧ (∀ a k, a ∉ as → gI h' a k = gI h a k) ∧ ∀ a k, a ∉ js → gL h' a k = gL h a k
theorem fx_refl (as js : List Nat) (h : Hp) : Fx as js h h := ⟨rfl, rfl, rfl, fun _ _ _ => rfl, fun _ _ _ => rfl, fun _ _ _ => rfl⟩
theorem fx_trans {as js : List Nat} {h h1 h2 : Hp} (a : Fx as js h h1) (b : Fx as js h1 h2) : Fx as js h h2 := ⟨b.1.trans a.1, b.2.1.trans a.2.1, b.2.2.1.trans a.2.2.1, fun x k hx => (b.2.2.2.1 x k hx).trans (a.2.2.2.1 x k hx), fun x k hx => (b.2.2.2.2.1 x k hx).trans (a.2.2.2.2.1 x k hx), fun x k hx => (b.2.2.2.2.2 x k hx).trans (a.2.2.2.2.2 x k hx)⟩
theorem fx_mono {as js as' js' : List Nat} {h h' : Hp} (a : Fx as js h h') (h1 : ∀ x ∈ as, x ∈ as') (h2 : ∀ x ∈ js, x ∈ js') : Fx as' js' h h' := ⟨a.1, a.2.1, a.2.2.1, a.2.2.2.1, fun x k hx => a.2.2.2.2.1 x k (fun g => hx (h1 x g)), fun x k hx => a.2.2.2.2.2 x k (fun g => hx (h2 x g))⟩
theorem fx_I {as js : List Nat} {h h1 : Hp} {x : Nat} (a : Fx as js h h1) (hx : x ∉ as) : gI h1 x = gI h x := funext (fun k => a.2.2.2.2.1 x k hx)
theorem fx_L {as js : List Nat} {h h1 : Hp} {x : Nat} (a : Fx as js h h1) (hx : x ∉ js) : gL h1 x = gL h x := funext (fun k => a.2.2.2.2.2 x k hx)
theorem fx_K {as js : List Nat} {h h1 : Hp} (a : Fx as js h h1) : gK h1 = gK h := a.1
theorem fx_N {as js : List Nat} {h h1 : Hp} (a : Fx as js h h1) : gN h1 = gN h := a.2.1
theorem fx_R {as js : List Nat} {h h1 : Hp} (a : Fx as js h h1) {x k : Nat} (hx : ¬ (x = 35 ∧ k = 6)) : gR h1 x k = gR h x k := a.2.2.2.1 x k hx
theorem fx_fr {as fs js gs : List Nat} {h h1 : Hp} (a : Fr as fs js gs h h1) (e1 : fs = []) (e2 : gs = []) : Fx as js h h1 := by
  subst e1
  subst e2
  refine ⟨fr_K a, fr_N a, fr_X a, fun x k _ => by rw [fr_R a], fun x k hx => a.2.1 x k hx (fun _ => List.not_mem_nil), fun x k hx => a.2.2 x k hx (fun _ => List.not_mem_nil)⟩
theorem fx_sI {as js : List Nat} (h : Hp) {x k : Nat} (v : Int32) (hx : x ∈ as) : Fx as js h (sI h x k v) := fx_fr (fr_sI h v (Or.inl hx)) rfl rfl
theorem fx_sA {as js : List Nat} (h : Hp) {x : Nat} (f : Nat → Int32) (hx : x ∈ as) : Fx as js h (sA h x f) := fx_fr (fr_sA h f hx) rfl rfl
theorem fx_sL {as js : List Nat} (h : Hp) {x k : Nat} (v : Int64) (hx : x ∈ js) : Fx as js h (sL h x k v) := fx_fr (fr_sL h v (Or.inl hx)) rfl rfl
theorem fx_sB {as js : List Nat} (h : Hp) {x : Nat} (f : Nat → Int64) (hx : x ∈ js) : Fx as js h (sB h x f) := ⟨rfl, rfl, rfl, fun _ _ _ => rfl, fun _ _ _ => rfl, fun a k ha => by
  rw [gL_sB, if_neg (fun (g : a = x) => ha (by rw [g]; exact hx))]⟩
theorem fx_XS {as js : List Nat} {h1 : Hp} (a : Fx as js h h1) (m : XS h) : XS h1 := by
  have r := fun x k hx => fx_R a (x := x) (k := k) hx
  unfold XS
  rw [fx_K a, fx_N a, r 16 0 (by decide), r 16 1 (by decide), r 16 2 (by decide), r 16 3 (by decide), r 16 4 (by decide), r 16 5 (by decide), r 16 6 (by decide), r 16 7 (by decide), r 16 8 (by decide), r 16 9 (by decide), r 16 10 (by decide), r 16 11 (by decide), r 16 12 (by decide), r 16 13 (by decide), r 16 14 (by decide), r 17 0 (by decide), r 19 0 (by decide), r 21 0 (by decide), r 23 0 (by decide), r 23 1 (by decide), r 23 2 (by decide), r 23 3 (by decide), r 24 0 (by decide), r 28 0 (by decide), r 28 1 (by decide), r 30 0 (by decide), r 30 1 (by decide), r 30 2 (by decide), r 30 3 (by decide), r 35 0 (by decide), r 35 1 (by decide), r 35 2 (by decide), r 35 3 (by decide), r 35 4 (by decide), r 35 5 (by decide), r 42 0 (by decide), r 42 1 (by decide), r 42 2 (by decide), r 42 3 (by decide), r 50 0 (by decide), r 50 1 (by decide), r 50 2 (by decide), r 50 3 (by decide), r 50 4 (by decide), r 50 5 (by decide), r 50 6 (by decide), r 56 0 (by decide), r 56 1 (by decide), r 56 2 (by decide), r 56 3 (by decide), r 60 0 (by decide), r 60 1 (by decide), r 60 2 (by decide), r 60 3 (by decide), r 60 4 (by decide), r 65 0 (by decide), r 65 1 (by decide), r 65 2 (by decide), r 65 3 (by decide), r 65 4 (by decide), r 65 5 (by decide), r 71 0 (by decide), r 71 1 (by decide), r 71 2 (by decide), r 71 3 (by decide), r 71 4 (by decide), r 71 5 (by decide), r 77 0 (by decide), r 79 0 (by decide)]
  exact m
theorem fx_CO {as js : List Nat} {h1 : Hp} {c : Nat} (a : Fx as js h h1) (hc : c ≠ 35) (m : CO h c) : CO h1 c := by
  unfold CO
  rw [fx_K a, fx_N a, fx_R a (fun g => hc g.1)]
  exact m
theorem fx_Crc {as js : List Nat} {h1 : Hp} {c r n : Nat} (a : Fx as js h h1) (hc : c ≠ 35) (h2 : c ∉ as) (m : Crc h c r n) : Crc h1 c r n := by
  refine ⟨fx_CO a hc m.1, ?_, ?_, m.2.2.2⟩
  · rw [fx_I a h2]; exact m.2.1
  · rw [fx_I a h2]; exact m.2.2.1
