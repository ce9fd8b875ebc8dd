/-! What the search finds, in the reference's words -/
variable {h : Hp}
theorem sm_shift (F : Nat → Int32) : ∀ n, sm F (n + 1) = F 0 + sm (fun i => F (i + 1)) n := by
  intro n
  induction n with
  | zero => rw [sm, sm, sm, Int32.zero_add, Int32.add_zero]
  | succ n ih => rw [sm, ih, sm, Int32.add_assoc]
theorem sq_sm {v : Nat → Nat → Int32} {j : Nat} : ∀ (q : List Nat) (c : Nat), sq v j c q = sm (fun i => nI (q.getD i 0) * v (c + i) j) q.length := by
  intro q
  induction q with
  | nil => intro c; rfl
  | cons a q ih =>
    intro c
    rw [sq, ih, List.length_cons, sm_shift]
    congr 1
    exact sm_congr (fun i _ => by rw [List.getD_cons_succ, show c + 1 + i = c + (i + 1) from by omega])
theorem gq_sm {gn : Nat → Int32} : ∀ (q : List Nat) (c : Nat), gq gn c q = sm (fun i => nI (q.getD i 0) * gn (c + i)) q.length := by
  intro q
  induction q with
  | nil => intro c; rfl
  | cons a q ih =>
    intro c
    rw [gq, ih, List.length_cons, sm_shift]
    congr 1
    exact sm_congr (fun i _ => by rw [List.getD_cons_succ, show c + 1 + i = c + (i + 1) from by omega])
theorem nI_m1n {c : Nat} (hc : c < 100) : ¬ nI c = -1 := fun g => by
  have := congrArg Int32.toInt g
  rw [nI_toInt (by omega), show (-1 : Int32).toInt = -1 from rfl] at this
  omega
theorem sq_pS {f : Nat → Int32} {n t j : Nat} {p : List Nat} (hn : n ≤ 8) (hp : p ∈ PL n t) : sq (vT f (-1)) j 0 p = pS f p n j := by
  have hl := (PL_mem hp).1
  rw [sq_sm, hl]
  unfold pS
  refine sm_congr (fun i hi => ?_)
  unfold vT
  rw [Nat.zero_add, if_neg (nI_m1n (by omega)), Int32.one_mul]
theorem sq_tS {f : Nat → Int32} {n t j : Nat} {u : Int32} {p : List Nat} (hp : p ∈ PL n t) : sq (vT f u) j 0 p = tS f p n j u := by
  have hl := (PL_mem hp).1
  rw [sq_sm, hl]
  unfold tS
  refine sm_congr (fun i hi => ?_)
  unfold vT
  rw [Nat.zero_add]
  by_cases e : nI i = u
  · rw [if_pos e, if_pos e, Int32.neg_mul, Int32.one_mul]
  · rw [if_neg e, if_neg e, Int32.one_mul]
theorem gq_pG {f : Nat → Int32} {n t : Nat} {p : List Nat} (hp : p ∈ PL n t) : gq (fun c => f (24 + c)) 0 p = pG f p n := by
  have hl := (PL_mem hp).1
  rw [gq_sm, hl]
  unfold pG
  refine sm_congr (fun i hi => ?_)
  rw [Nat.zero_add]
/-- a sum over nothing -/
theorem sm_0 {F : Nat → Int32} : ∀ {n : Nat}, (∀ i, i < n → F i = 0) → sm F n = 0 := by
  intro n
  induction n with
  | zero => intro _; rfl
  | succ n ih => intro h; rw [sm, ih (fun i hi => h i (by omega)), h n (by omega), Int32.add_zero]
theorem allB_ext {F : Nat → Bool} {r n : Nat} (hr : r ≤ n) (h : ∀ i, r ≤ i → i < n → F i = true) : allB F n = allB F r := by
  rw [Bool.eq_iff_iff, allB_true, allB_true]
  constructor
  · intro a i hi
    exact a i (by omega)
  · intro a i hi
    by_cases e : i < r
    · exact a i e
    · exact h i (by omega) hi
theorem ld_lead {f : Nat → Int32} {r n t : Nat} {p : List Nat} (hn : n ≤ 8) (hr : r ≤ 3) (hZ : ZB f r) (hp : p ∈ PL n t) : ldP (vT f (-1)) 0 (fun j => f (32 + j)) p = lead f r n p := by
  unfold ldP lead
  rw [allB_ext hr (fun j h1 h2 => ?_)]
  · refine allB_congr (fun j hj => ?_)
    rw [sq_pS hn hp, decide_eq_decide]
    exact ⟨Eq.symm, Eq.symm⟩
  · rw [decide_eq_true_eq, sq_pS hn hp]
    dsimp only
    rw [(hZ j h1 h2).1]
    unfold pS
    rw [sm_0]
    intro i hi
    rw [(hZ j h1 h2).2 i (by omega), Int32.mul_zero]
theorem ld_turn {f ss : Nat → Int32} {r n t i : Nat} {u : Int32} {p : List Nat} {tg : Nat → Int32} (hn : n ≤ 8) (hr : r ≤ 3) (hZ : ZB f r) (ht : ∀ j, j < r → tg j = ss (3 * i + j)) (ht0 : ∀ j, r ≤ j → j < 3 → tg j = 0) (hp : p ∈ PL n t) : ldP (vT f u) 0 tg p = isS f ss r n i u p := by
  unfold ldP isS
  rw [allB_ext hr (fun j h1 h2 => ?_)]
  · refine allB_congr (fun j hj => ?_)
    rw [sq_tS hp, decide_eq_decide, ht j hj]
    exact ⟨Eq.symm, Eq.symm⟩
  · rw [decide_eq_true_eq, sq_tS hp, ht0 j h1 h2]
    unfold tS
    rw [sm_0]
    intro i hi
    rw [(hZ j h1 h2).2 i (by omega)]
    split
    · rw [Int32.neg_zero, Int32.mul_zero]
    · rw [Int32.mul_zero]
theorem fd_cnt {en : Nat} {v : Nat → Nat → Int32} {gn R : Nat → Int32} {c : Nat} {p : List Nat} {g : Int32} : ∀ (l : List (List Nat)) (st : ST), st.1 ≤ en → (fdS en v gn c R p g l st).1 = min en (st.1 + (l.filter (ldP v c R)).length) := by
  intro l
  induction l with
  | nil =>
    intro st h
    show st.1 = min en (st.1 + 0)
    omega
  | cons q l ih =>
    intro st h
    have e1 : fdS en v gn c R p g (q :: l) st = fdS en v gn c R p g l (fdP en v gn c R p g st q) := rfl
    rw [e1]
    cases e : ldP v c R q
    · have e2 : fdP en v gn c R p g st q = st := by unfold fdP; rw [e]; rfl
      rw [e2, ih st h, List.filter_cons_of_neg (by rw [e]; decide)]
    · have e2 : (fdP en v gn c R p g st q).1 = min en (st.1 + 1) := by
        unfold fdP tkS
        rw [e, if_pos rfl]
        split
        · omega
        · split
          · show st.1 + 1 = _; omega
          · show st.1 + 1 = _; omega
      rw [ih _ (by omega), e2, List.filter_cons_of_pos e, List.length_cons]
      omega
/-- the state of a search as the best plan so far -/
def toO (t : Nat) (st : ST) : Option (List Nat × Int32 × Nat) := if st.1 = 0 then none else some (st.2.2, st.2.1, t)
theorem fd_op {en r n t : Nat} {f : Nat → Int32} (hn : n ≤ 8) (hr : r ≤ 3) (hZ : ZB f r) : ∀ (l : List (List Nat)) (st : ST), (∀ q ∈ l, q ∈ PL n t) → st.1 + l.length ≤ en → toO t (fdS en (vT f (-1)) (fun c => f (24 + c)) 0 (fun j => f (32 + j)) [] 0 l st) = l.foldl (opS f r n t) (toO t st) := by
  intro l
  induction l with
  | nil => intro st _ _; rfl
  | cons q l ih =>
    intro st hq hl
    rw [List.length_cons] at hl
    have hqm := hq q List.mem_cons_self
    have e1 : fdS en (vT f (-1)) (fun c => f (24 + c)) 0 (fun j => f (32 + j)) [] 0 (q :: l) st = fdS en (vT f (-1)) (fun c => f (24 + c)) 0 (fun j => f (32 + j)) [] 0 l (fdP en (vT f (-1)) (fun c => f (24 + c)) 0 (fun j => f (32 + j)) [] 0 st q) := rfl
    have e2 : toO t (fdP en (vT f (-1)) (fun c => f (24 + c)) 0 (fun j => f (32 + j)) [] 0 st q) = opS f r n t (toO t st) q ∧ (fdP en (vT f (-1)) (fun c => f (24 + c)) 0 (fun j => f (32 + j)) [] 0 st q).1 ≤ st.1 + 1 := by
      unfold fdP opS
      rw [ld_lead hn hr hZ hqm, gq_pG hqm, List.nil_append, Int32.zero_add]
      cases e : lead f r n q
      · rw [if_neg (by decide), if_neg (by decide)]
        exact ⟨rfl, by omega⟩
      · rw [if_pos rfl, if_pos rfl]
        unfold tkS
        rw [if_neg (by omega)]
        by_cases g0 : st.1 = 0
        · rw [if_pos (Or.inl g0)]
          unfold toO
          rw [if_pos g0, if_neg (by show ¬ st.1 + 1 = 0; omega)]
          exact ⟨rfl, Nat.le_refl _⟩
        · have eo : toO t st = some (st.2.2, st.2.1, t) := by unfold toO; rw [if_neg g0]
          rw [eo]
          dsimp only
          by_cases g1 : pG f q n ≤ st.2.1
          · rw [if_neg (fun y => y.elim g0 (fun y => y g1)), if_pos g1]
            unfold toO
            rw [if_neg (by show ¬ st.1 + 1 = 0; omega)]
            exact ⟨rfl, Nat.le_refl _⟩
          · rw [if_pos (Or.inr g1), if_neg g1]
            unfold toO
            rw [if_neg (by show ¬ st.1 + 1 = 0; omega)]
            exact ⟨rfl, Nat.le_refl _⟩
    rw [e1, ih _ (fun x hx => hq x (List.mem_cons_of_mem _ hx)) (by omega), e2.1]
    rfl
/-- the best of a length against the best so far -/
theorem op_merge {f : Nat → Int32} {r n t : Nat} : ∀ (l : List (List Nat)) (o : Option (List Nat × Int32 × Nat)), l.foldl (opS f r n t) o = match l.foldl (opS f r n t) none with
  | none => o
  | some b => match o with
    | none => some b
    | some a => if b.2.1 ≤ a.2.1 then some a else some b := by
  have gen : ∀ (l : List (List Nat)) (b a : List Nat × Int32 × Nat), l.foldl (opS f r n t) (if b.2.1 ≤ a.2.1 then some a else some b) = match l.foldl (opS f r n t) (some b) with
    | none => some a
    | some b' => if b'.2.1 ≤ a.2.1 then some a else some b' := by
    intro l
    induction l with
    | nil => intro b a; rfl
    | cons q l ih =>
      intro b a
      rw [List.foldl_cons, List.foldl_cons]
      have st : opS f r n t (if b.2.1 ≤ a.2.1 then some a else some b) q = (if (if lead f r n q = true then (if pG f q n ≤ b.2.1 then b else (q, pG f q n, t)) else b).2.1 ≤ a.2.1 then some a else some (if lead f r n q = true then (if pG f q n ≤ b.2.1 then b else (q, pG f q n, t)) else b)) := by
        unfold opS
        cases e : lead f r n q
        · simp only [Bool.false_eq_true, if_false]
        · rw [if_pos rfl, if_pos rfl]
          by_cases g1 : b.2.1 ≤ a.2.1
          · rw [if_pos g1]
            dsimp only
            by_cases g2 : pG f q n ≤ b.2.1
            · rw [if_pos g2, if_pos g1, if_pos (Int32.le_trans g2 g1)]
            · rw [if_neg g2]
          · rw [if_neg g1]
            dsimp only
            by_cases g2 : pG f q n ≤ b.2.1
            · rw [if_pos g2, if_pos g2, if_neg g1]
            · rw [if_neg g2, if_neg g2, if_neg]
              intro g3
              exact g1 (Int32.le_trans (Int32.le_of_lt (Int32.not_le.mp g2)) g3)
      have st2 : opS f r n t (some b) q = some (if lead f r n q = true then (if pG f q n ≤ b.2.1 then b else (q, pG f q n, t)) else b) := by
        unfold opS
        cases e : lead f r n q
        · rw [if_neg (by decide), if_neg (by decide)]
        · rw [if_pos rfl, if_pos rfl]
          dsimp only
          split <;> rfl
      rw [st, st2, ih]
  intro l
  induction l with
  | nil => intro o; rfl
  | cons q l ih =>
    intro o
    rw [List.foldl_cons, List.foldl_cons]
    cases e : lead f r n q
    · have e1 : ∀ o, opS f r n t o q = o := fun o => by unfold opS; rw [e]; rfl
      rw [e1, e1, ih]
    · have e1 : opS f r n t none q = some (q, pG f q n, t) := by unfold opS; rw [if_pos e]
      rw [e1]
      cases o with
      | none =>
        rw [e1]
        cases l.foldl (opS f r n t) (some (q, pG f q n, t)) with
        | none => rfl
        | some b => rfl
      | some a =>
        have e2 : opS f r n t (some a) q = if (q, pG f q n, t).2.1 ≤ a.2.1 then some a else some (q, pG f q n, t) := by unfold opS; rw [if_pos e]
        rw [e2, gen]
