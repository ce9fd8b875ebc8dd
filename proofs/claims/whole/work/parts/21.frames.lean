/-! What a method of the reference leaves as it was; a run over the plans of one length -/
variable {h : Hp}
def Fr (as fs js gs : List Nat) (h h' : Hp) : Prop := h'.2.2 = h.2.2 ∧ (∀ a k, a ∉ as → (a = 81 → k ∉ fs) → gI h' a k = gI h a k) ∧ (∀ a k, a ∉ js → (a = 81 → k ∉ gs) → gL h' a k = gL h a k)
theorem fr_refl (as fs js gs : List Nat) (h : Hp) : Fr as fs js gs h h := ⟨rfl, fun _ _ _ _ => rfl, fun _ _ _ _ => rfl⟩
theorem fr_trans {as fs js gs : List Nat} {h h1 h2 : Hp} (a : Fr as fs js gs h h1) (b : Fr as fs js gs h1 h2) : Fr as fs js gs h h2 :=
  ⟨b.1.trans a.1, fun x k p q => (b.2.1 x k p q).trans (a.2.1 x k p q), fun x k p q => (b.2.2 x k p q).trans (a.2.2 x k p q)⟩
theorem fr_mono {as fs js gs as' fs' js' gs' : List Nat} {h h' : Hp} (a : Fr as fs js gs h h') (h1 : ∀ x ∈ as, x ∈ as') (h2 : ∀ x ∈ fs, x ∈ fs') (h3 : ∀ x ∈ js, x ∈ js') (h4 : ∀ x ∈ gs, x ∈ gs') : Fr as' fs' js' gs' h h' :=
  ⟨a.1, fun x k p q => a.2.1 x k (fun z => p (h1 x z)) (fun e z => q e (h2 k z)), fun x k p q => a.2.2 x k (fun z => p (h3 x z)) (fun e z => q e (h4 k z))⟩
theorem fr_I {as fs js gs : List Nat} {h h1 : Hp} {x : Nat} (a : Fr as fs js gs h h1) (hx : x ∉ as) (h8 : x ≠ 81) : gI h1 x = gI h x := by
  funext k
  exact a.2.1 x k hx (fun z => absurd z h8)
theorem fr_F {as fs js gs : List Nat} {h h1 : Hp} {k : Nat} (a : Fr as fs js gs h h1) (hx : 81 ∉ as) (hk : k ∉ fs) : gI h1 81 k = gI h 81 k := a.2.1 81 k hx (fun _ => hk)
theorem fr_L {as fs js gs : List Nat} {h h1 : Hp} {x : Nat} (a : Fr as fs js gs h h1) (hx : x ∉ js) (h8 : x ≠ 81) : gL h1 x = gL h x := by
  funext k
  exact a.2.2 x k hx (fun z => absurd z h8)
theorem fr_G {as fs js gs : List Nat} {h h1 : Hp} {k : Nat} (a : Fr as fs js gs h h1) (hx : 81 ∉ js) (hk : k ∉ gs) : gL h1 81 k = gL h 81 k := a.2.2 81 k hx (fun _ => hk)
theorem fr_K {as fs js gs : List Nat} {h h1 : Hp} (a : Fr as fs js gs h h1) : gK h1 = gK h := by unfold gK; rw [a.1]
theorem fr_R {as fs js gs : List Nat} {h h1 : Hp} (a : Fr as fs js gs h h1) : gR h1 = gR h := by unfold gR; rw [a.1]
theorem fr_N {as fs js gs : List Nat} {h h1 : Hp} (a : Fr as fs js gs h h1) : gN h1 = gN h := by unfold gN; rw [a.1]
theorem fr_X {as fs js gs : List Nat} {h h1 : Hp} (a : Fr as fs js gs h h1) : gX h1 = gX h := by unfold gX; rw [a.1]
theorem fr_MS {as fs js gs : List Nat} {h h1 : Hp} (a : Fr as fs js gs h h1) (hM : MS h) : MS h1 := by
  unfold MS
  rw [fr_K a, fr_R a, fr_N a]
  exact hM
theorem fr_Mrc {as fs js gs : List Nat} {h h1 : Hp} {r n : Nat} (a : Fr as fs js gs h h1) (hx : 81 ∉ as) (h7 : 17 ∉ fs) (h8 : 18 ∉ fs) (hM : Mrc h r n) : Mrc h1 r n :=
  ⟨fr_MS a hM.1, (fr_F a hx h7).trans hM.2.1, (fr_F a hx h8).trans hM.2.2.1, hM.2.2.2⟩
theorem fr_sA {as fs js gs : List Nat} (h : Hp) {x : Nat} (f : Nat → Int32) (hx : x ∈ as) : Fr as fs js gs h (sA h x f) :=
  ⟨rfl, fun b k p _ => by rw [gI_sA, if_neg (fun z => p (by rw [z]; exact hx))], fun _ _ _ _ => rfl⟩
theorem fr_sI {as fs js gs : List Nat} (h : Hp) {x k : Nat} (v : Int32) (hx : x ∈ as ∨ x = 81 ∧ k ∈ fs) : Fr as fs js gs h (sI h x k v) :=
  ⟨rfl, fun b j p q => by
    rw [gI_sI, if_neg]
    rintro ⟨rfl, rfl⟩
    rcases hx with hx | ⟨rfl, hx⟩
    · exact p hx
    · exact q rfl hx, fun _ _ _ _ => rfl⟩
theorem fr_sL {as fs js gs : List Nat} (h : Hp) {x k : Nat} (v : Int64) (hx : x ∈ js ∨ x = 81 ∧ k ∈ gs) : Fr as fs js gs h (sL h x k v) :=
  ⟨rfl, fun _ _ _ _ => rfl, fun b j p q => by
    rw [gL_sL, if_neg]
    rintro ⟨rfl, rfl⟩
    rcases hx with hx | ⟨rfl, hx⟩
    · exact p hx
    · exact q rfl hx⟩
/-- the plan at hand -/
def AtP (h : Hp) (p : List Nat) : Prop := ∀ j, j < 8 → gI h 88 j = nI (p.getD j 0)
theorem AtP_P8 {p : List Nat} (a : AtP h p) : gI h 88 = P8 p (gI h 88) := by
  funext j
  unfold P8
  split
  · next hj => exact a j hj
  · rfl
theorem AtP_sA (h : Hp) (p : List Nat) (g : Nat → Int32) : AtP (sA h 88 (P8 p g)) p := fun j hj => by rw [gI_sAeq, P8_at hj]
def hdP (h : Hp) (l : List (List Nat)) : Prop := ∀ q l', l = q :: l' → AtP h q
def Lp (n t : Nat) (l : List (List Nat)) : Prop := (∀ x ∈ l, x.length = n ∧ x.sum = t) ∧ (l = [] ∨ Ch none l)
theorem Ch_tl {p : List Nat} {l : List (List Nat)} (c : Ch none (p :: l)) : (l = [] ∧ nx p = none) ∨ ∃ q l', l = q :: l' ∧ nx p = some q ∧ Ch none (q :: l') := by
  cases l with
  | nil => exact Or.inl ⟨rfl, c⟩
  | cons q l' => exact Or.inr ⟨q, l', rfl, c.1, c.2⟩
theorem t_M_next {r n t : Nat} {p : List Nat} {l : List (List Nat)} {Q : Bool → Hp → Prop} (hM : Mrc h r n) (ht : t < 2 ^ 30) (hl : Lp n t (p :: l)) (hp : AtP h p) (hq : ∀ h', Fr [88] [] [] [] h h' → hdP h' l → Q (!l.isEmpty) h') : w_M_nextPlan 81 h Q := by
  have hc : Ch none (p :: l) := hl.2.resolve_left (by simp)
  have hpp := hl.1 p List.mem_cons_self
  refine t_M_nextPlan hM (AtP_P8 hp) hpp.1 (fun j => by have := getD_le_sum p j; rw [hpp.2] at this; omega) (fun q e => ?_) (fun e f => ?_)
  · rcases Ch_tl hc with ⟨-, e2⟩ | ⟨q', l', rfl, e2, -⟩
    · rw [e] at e2; cases e2
    · rw [e] at e2
      cases e2
      refine hq _ (fr_sA _ _ (by simp)) (fun q2 l2 e3 => ?_)
      cases e3
      exact AtP_sA _ _ _
  · rcases Ch_tl hc with ⟨rfl, e2⟩ | ⟨q', l', rfl, e2, -⟩
    · exact hq _ (fr_sA _ _ (by simp)) (fun q2 l2 e3 => by cases e3)
    · rw [e] at e2; cases e2
theorem PL_Lp (n t : Nat) : Lp n t (PL n t) := by
  refine ⟨fun x hx => PL_mem hx, ?_⟩
  cases n with
  | zero =>
    unfold PL
    split
    · exact Or.inr rfl
    · exact Or.inl rfl
  | succ n => exact Or.inr (PL_ch n t).2
theorem t_M_first {r n t : Nat} {Q : Bool → Hp → Prop} (hM : Mrc h r n) (ht : t < 2 ^ 31) (hq : ∀ h', Fr [88] [] [] [] h h' → hdP h' (PL n t) → Q (!(PL n t).isEmpty) h') : w_M_firstPlan 81 (nI t) h Q := by
  refine t_M_firstPlan hM ht ?_
  have h2 := hq (sA h 88 (P8 (fp n t) (gI h 88))) (fr_sA _ _ (by simp))
  cases n with
  | zero =>
    by_cases e : t = 0
    · subst e
      rw [decide_eq_true (fun _ => rfl)]
      exact h2 (fun q l' e => by
        have : q = [] := by
          have e2 : PL 0 0 = [[]] := rfl
          rw [e2] at e
          cases e
          rfl
        subst this
        exact AtP_sA _ _ _)
    · have e2 : PL 0 t = [] := by unfold PL; rw [if_neg e]
      rw [decide_eq_false (fun z => e (z rfl))]
      rw [e2] at h2
      exact h2 (fun q l' e => by cases e)
  | succ n =>
    obtain ⟨⟨l, hl⟩, hc⟩ := PL_ch n t
    rw [decide_eq_true (fun z => absurd z (by omega))]
    rw [hl] at h2
    exact h2 (fun q l' e => by cases e; exact AtP_sA _ _ _)
theorem plan_run {n t : Nat} (W : Nat → Int32 → Hp → Prop) (I : List (List Nat) → Hp → Prop) (hx : ∀ m h, I [] h → W (m + 1) 0 h)
    (hs : ∀ m p l h, I (p :: l) h → Lp n t (p :: l) → AtP h p → (∀ h', I l h' → hdP h' l → W m (b2i (!l.isEmpty)) h') → W (m + 1) 1 h) :
    ∀ l, Lp n t l → ∀ h, I l h → hdP h l → ∃ m, W m (b2i (!l.isEmpty)) h := by
  have key : ∀ l, Lp n t l → ∀ h, I l h → hdP h l → W (l.length + 1) (b2i (!l.isEmpty)) h := by
    intro l
    induction l with
    | nil =>
      intro _ h hi _
      exact hx _ h hi
    | cons p l ih =>
      intro hl h hi hp
      refine hs _ p l h hi hl (hp p l rfl) (fun h' hi' hp' => ih ⟨fun x hx => hl.1 x (List.mem_cons_of_mem _ hx), ?_⟩ h' hi' hp')
      rcases Ch_tl (hl.2.resolve_left (by simp)) with ⟨e, -⟩ | ⟨q, l', rfl, -, e⟩
      · exact Or.inl e
      · exact Or.inr e
  exact fun l hl h hi hp => ⟨_, key l hl h hi hp⟩
/-! The optimum -/
def opS (f : Nat → Int32) (r n t : Nat) (o : Option (List Nat × Int32 × Nat)) (p : List Nat) : Option (List Nat × Int32 × Nat) :=
  if lead f r n p then (match o with
    | none => some (p, pG f p n, t)
    | some (q, g, s) => if pG f p n ≤ g then some (q, g, s) else some (p, pG f p n, t)) else o
def opT (f : Nat → Int32) (r n t : Nat) (o : Option (List Nat × Int32 × Nat)) : Option (List Nat × Int32 × Nat) := (PL n t).foldl (opS f r n t) o
def opR (f : Nat → Int32) (r n : Nat) : Nat → Option (List Nat × Int32 × Nat)
  | 0 => none
  | t + 1 => opT f r n t (opR f r n t)
/-- what is laid out of the best plan -/
def OB (h : Hp) : Option (List Nat × Int32 × Nat) → Prop
  | none => gI h 81 29 = -1
  | some (p, g, t) => gI h 81 29 = nI t ∧ gI h 81 28 = g ∧ (∀ j, j < 8 → gI h 89 j = nI (p.getD j 0)) ∧ t ≤ 12
theorem OB_fr {as fs js gs : List Nat} {h' : Hp} {o : Option (List Nat × Int32 × Nat)} (a : Fr as fs js gs h h') (h1 : 81 ∉ as) (h2 : 89 ∉ as) (h3 : 28 ∉ fs) (h4 : 29 ∉ fs) (b : OB h o) : OB h' o := by
  match o, b with
  | none, b => exact (fr_F a h1 h4).trans b
  | some (p, g, t), ⟨b1, b2, b3, b4⟩ => exact ⟨(fr_F a h1 h4).trans b1, (fr_F a h1 h3).trans b2, fun j hj => by rw [fr_I a h2 (by decide)]; exact b3 j hj, b4⟩
