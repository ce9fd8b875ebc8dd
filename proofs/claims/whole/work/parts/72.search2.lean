/-! The class's search of plans -/
variable {h : Hp}
/-- what stays while plans are searched -/
def PH (cc n : Nat) (v : Nat → Nat → Int32) (gn : Nat → Int32) (h : Hp) : Prop := XS h ∧ gR h 35 6 = cc ∧ CO h cc ∧ gI h cc 2 = nI n ∧ n ≤ 8 ∧ (cc = 19 ∨ cc = 21) ∧ (∀ c j, c < n → j < 3 → gI h 39 (3 * c + j) = v c j ∧ gI h 40 (3 * c + j) = loT v j (n - 1 - c) c ∧ gI h 41 (3 * c + j) = hiT v j (n - 1 - c) c) ∧ (∀ c, c < n → gI h (cc + 1) (24 + c) = gn c) ∧ ∀ c j, c < n → j < 3 → -5 ≤ (v c j).toInt ∧ (v c j).toInt ≤ 5
theorem PH_fx {cc n : Nat} {v : Nat → Nat → Int32} {gn : Nat → Int32} {h' : Hp} (p : PH cc n v gn h) (f : Fx [35, 36, 37, 38] [] h h') (h6 : gR h' 35 6 = gR h 35 6) : PH cc n v gn h' := by
  obtain ⟨p1, p2, p3, p4, p5, p6, p7, p8, p9⟩ := p
  refine ⟨fx_XS f p1, h6.trans p2, fx_CO f (by omega) p3, ?_, p5, p6, ?_, ?_, p9⟩
  · rcases p6 with p6 | p6
    · rw [p6] at p4 ⊢; rw [fx_I f (by decide)]; exact p4
    · rw [p6] at p4 ⊢; rw [fx_I f (by decide)]; exact p4
  · rw [fx_I f (x := 39) (by decide), fx_I f (x := 40) (by decide), fx_I f (x := 41) (by decide)]; exact p7
  · rcases p6 with p6 | p6
    · rw [p6] at p8 ⊢; rw [fx_I f (by decide)]; exact p8
    · rw [p6] at p8 ⊢; rw [fx_I f (by decide)]; exact p8
/-- the search's own numbers -/
def SP (n en : Nat) (st : ST) (h : Hp) : Prop := gI h 35 7 = nI en ∧ gI h 35 8 = nI st.1 ∧ gI h 35 9 = st.2.1 ∧ (st.1 ≠ 0 → ∀ j, j < n → gI h 38 j = nI (st.2.2.getD j 0)) ∧ st.1 ≤ en
theorem SP_fx {n en : Nat} {st : ST} {h' : Hp} (p : SP n en st h) (f : Fx [36, 37] [] h h') : SP n en st h' := by
  unfold SP
  rw [fx_I f (x := 35) (by decide), fx_I f (x := 38) (by decide)]
  exact p
theorem t_Ps_shiftRest {cc n c : Nat} {v : Nat → Nat → Int32} {gn R : Nat → Int32} {y : Int32} {Q : Hp → Prop} (p : PH cc n v gn h) (hc : c < n) (hR : ∀ j, j < 3 → gI h 36 j = R j) (hq : ∀ h', Fx [36] [] h h' → gR h' = gR h → (∀ j, j < 3 → gI h' 36 j = R j + y * v c j) → Q h') : w_Ps_shiftRest 35 (nI c) y h Q := by
  obtain ⟨p1, p2, p3, p4, p5, p6, p7, p8, p9⟩ := p
  unfold w_Ps_shiftRest
  refine loop_0 (fun m j s => w_Ps_shiftRest_L2 Q 35 (nI c) y m (nI j) s) (fun j s => Fx [36] [] h s ∧ gR s = gR h ∧ ∀ j', j' < 3 → gI s 36 j' = if j' < j then R j' + y * v c j' else R j') 3 h ⟨fx_refl _ _ _, rfl, fun j' hj' => by rw [if_neg (Nat.not_lt_zero _)]; exact hR j' hj'⟩ ?_ ?_
  · rintro m s ⟨f, g, e⟩
    unfold w_Ps_shiftRest_L2
    exact ⟨fun _ => hq s f g (fun j hj => by rw [e j hj, if_pos hj]), fun z => absurd (Int32.le_refl _) z⟩
  · rintro m j s hj ⟨f, g, e⟩ ih
    unfold w_Ps_shiftRest_L2
    refine ⟨fun z => absurd z (nI_ge (b := 3) hj (by omega)), fun _ => ?_⟩
    rw [fx_K f, fx_N f, g, X_r35_0 p1, X_r35_3 p1, X_k35 p1, X_k36 p1, X_k39 p1, X_n36 p1, X_n39 p1, show (3 : Int32) = nI 3 from rfl, pk_mul, nI_add, nI_1, ix_nI (n := j) (by omega), ix_nI (n := c * 3 + j) (by omega), e j hj, if_neg (Nat.lt_irrefl _), fx_I f (x := 39) (by decide), show c * 3 + j = 3 * c + j from by omega, (p7 c j hc hj).1]
    refine ⟨rfl, rfl, vp_in_nI (by omega) (by omega), rfl, vp_in_nI (by omega) (by omega), ih _ ⟨fx_trans f (fx_sI _ _ (by simp)), g, fun j' hj' => ?_⟩⟩
    rw [gI_sI]
    by_cases e2 : j' = j
    · rw [if_pos ⟨rfl, e2⟩, if_pos (by omega), e2]
    · rw [if_neg (fun y => e2 y.2), e j' hj']
      by_cases e3 : j' < j
      · rw [if_pos e3, if_pos (by omega)]
      · rw [if_neg e3, if_neg (by omega)]
theorem t_Ps_isOutOfReach {cc n c k left : Nat} {v : Nat → Nat → Int32} {gn R : Nat → Int32} {Q : Bool → Hp → Prop} (p : PH cc n v gn h) (hk : c + k = n) (hc : c < n) (hl : left ≤ 12) (hR : ∀ j, j < 3 → gI h 36 j = R j) (hq : ∀ b, (b = true → ∀ q ∈ PL k left, ldP v c R q = false) → Q b h) : w_Ps_isOutOfReach 35 (nI c) (nI left) h Q := by
  obtain ⟨p1, p2, p3, p4, p5, p6, p7, p8, p9⟩ := p
  have mulB : ∀ {x : Int32}, -5 ≤ x.toInt → x.toInt ≤ 5 → (nI left * x).toInt = (left : Int) * x.toInt := fun h1 h2 => by
    have e1 : (nI left).toInt = (left : Int) := nI_toInt (by omega)
    have := mul_bd left h1 h2
    rw [Jvm.Kit.i32_mul (by rw [e1]; omega) (by rw [e1]; omega), e1]
  unfold w_Ps_isOutOfReach
  refine loop_0 (fun m j (s : Unit) => w_Ps_isOutOfReach_L2 Q 35 (nI c) (nI left) m (nI j) h) (fun _ _ => True) 3 () trivial ?_ ?_
  · rintro m s _
    unfold w_Ps_isOutOfReach_L2
    exact ⟨fun _ => hq false (fun g => absurd g (by decide)), fun z => absurd (Int32.le_refl _) z⟩
  · rintro m j s hj _ ih
    obtain ⟨l1, l2⟩ := loT_sp v j (n - 1 - c) c
    obtain ⟨u1, u2⟩ := hiT_sp v j (n - 1 - c) c
    have lb : -5 ≤ (loT v j (n - 1 - c) c).toInt ∧ (loT v j (n - 1 - c) c).toInt ≤ 5 := by
      obtain ⟨c', h1, h2, h3⟩ := l1
      rw [h3]
      exact p9 c' j (by omega) hj
    have ub : -5 ≤ (hiT v j (n - 1 - c) c).toInt ∧ (hiT v j (n - 1 - c) c).toInt ≤ 5 := by
      obtain ⟨c', h1, h2, h3⟩ := u1
      rw [h3]
      exact p9 c' j (by omega) hj
    have out : ((R j).toInt < (left : Int) * (loT v j (n - 1 - c) c).toInt ∨ (left : Int) * (hiT v j (n - 1 - c) c).toInt < (R j).toInt) → Q true h := fun hx => hq true (fun _ => ld_out hj (fun c' j' _ b cc' => p9 c' j' b cc') hl (fun c' a b => ⟨l2 c' a (by omega), u2 c' a (by omega)⟩) hx hk)
    unfold w_Ps_isOutOfReach_L2
    refine ⟨fun z => absurd z (nI_ge (b := 3) hj (by omega)), fun _ => ?_⟩
    rw [X_r35_0 p1, X_r35_4 p1, X_r35_5 p1, X_k35 p1, X_k36 p1, X_k40 p1, X_k41 p1, X_n36 p1, X_n40 p1, X_n41 p1, show (3 : Int32) = nI 3 from rfl, pk_mul, nI_add, nI_1, ix_nI (n := j) (by omega), ix_nI (n := c * 3 + j) (by omega), hR j hj, show c * 3 + j = 3 * c + j from by omega, (p7 c j hc hj).2.1, (p7 c j hc hj).2.2]
    refine ⟨rfl, rfl, vp_in_nI (by omega) (by omega), rfl, vp_in_nI (by omega) (by omega), fun z => out (Or.inl ?_), fun z => ⟨rfl, vp_in_nI (by omega) (by omega), fun _ => ih () trivial, fun z2 => out (Or.inr ?_)⟩⟩
    · rw [Int32.lt_iff_toInt_lt, mulB lb.1 lb.2] at z
      exact z
    · rw [Int32.le_iff_toInt_le, mulB ub.1 ub.2] at z2
      omega
theorem fdS_more {en : Nat} {v : Nat → Nat → Int32} {gn : Nat → Int32} {c k left i : Nat} {R : Nat → Int32} {p : List Nat} {g : Int32} {st : ST} (h : en ≤ (fdS en v gn c R p g (shL k left i) st).1) : ∀ e, fdS en v gn c R p g (shL k left (i + e)) st = fdS en v gn c R p g (shL k left i) st := by
  intro e
  induction e with
  | zero => rfl
  | succ e ih => rw [← Nat.add_assoc, fdS_sh, ih, fdS_en _ _ h]
theorem fdS_last {en : Nat} {v : Nat → Nat → Int32} {gn : Nat → Int32} {c left : Nat} {R : Nat → Int32} {p : List Nat} {g : Int32} {st : ST} : ∀ e, fdS en v gn c R p g (shL 0 left (1 + e)) st = fdS en v gn c R p g (shL 0 left 1) st := by
  intro e
  induction e with
  | zero => rfl
  | succ e ih =>
    rw [← Nat.add_assoc, fdS_sh, ih]
    have : PL 0 (1 + e) = [] := by unfold PL; rw [if_neg (by omega)]
    rw [this]
    rfl
theorem tkS_le {en : Nat} {st : ST} {p : List Nat} {g : Int32} (h : st.1 ≤ en) : (tkS en st p g).1 ≤ en := by
  unfold tkS
  split
  · exact h
  · split
    · show st.1 + 1 ≤ en; omega
    · show st.1 + 1 ≤ en; omega
theorem t_Ps_take {cc n en : Nat} {v : Nat → Nat → Int32} {gn : Nat → Int32} {p : List Nat} {g : Int32} {st : ST} {Q : Hp → Prop} (ph : PH cc n v gn h) (sp : SP n en st h) (hen : en < 2 ^ 31) (hlt : st.1 < en) (ho : ∀ i, i < n → gI h 37 i = nI (p.getD i 0)) (hq : ∀ h', Fx [35, 38] [] h h' → gR h' = gR h → SP n en (tkS en st p g) h' → Q h') : w_Ps_take 35 g h Q := by
  obtain ⟨p1, p2, p3, p4, p5, p6, p7, p8, p9⟩ := ph
  obtain ⟨s1, s2, s3, s4, s5⟩ := sp
  have upd_ : ∀ x : Int32, x = nI (st.1 + 1) → (st.1 = 0 ∨ ¬ g ≤ st.2.1) → w_Ps_take_B26 Q 35 g (sI h 35 8 x) := fun x hx hc => by
    unfold w_Ps_take_B26
    rw [gR_sI, gK_sI, gN_sI, X_r35_1 p1, X_r35_2 p1, X_k35 p1, X_k37 p1, X_k38 p1, X_n37 p1, X_n38 p1]
    refine ⟨rfl, rfl, rfl, by decide, by decide, hq _ (fx_trans (fx_trans (fx_sI _ _ (by simp)) (fx_sI _ _ (by simp))) (fx_sA _ _ (by simp))) rfl ?_⟩
    unfold tkS
    rw [if_neg (by omega), if_pos hc]
    refine ⟨?_, ?_, ?_, fun _ j hj => ?_, by show st.1 + 1 ≤ en; omega⟩
    · rw [gI_sA, if_neg (by decide), gI_sI, if_neg (by decide), gI_sI, if_neg (by decide)]; exact s1
    · rw [gI_sA, if_neg (by decide), gI_sI, if_neg (by decide), gI_sI, if_pos ⟨rfl, rfl⟩]; exact hx
    · rw [gI_sA, if_neg (by decide), gI_sI, if_pos ⟨rfl, rfl⟩]
    · rw [gI_sA, if_pos rfl]
      unfold va_cpy
      rw [show ix (0 : Int32) = 0 from rfl, show ix (8 : Int32) = 8 from rfl, if_pos (by omega), show 0 + (j - 0) = j from by omega, gI_sI, if_neg (fun y => absurd y.1 (by decide)), gI_sI, if_neg (fun y => absurd y.1 (by decide))]
      exact ho j hj
  unfold w_Ps_take
  rw [gI_sI, if_pos ⟨rfl, rfl⟩, gI_sI, if_neg (by decide), s2, s3, nI_1]
  refine ⟨X_k35 p1, fun z => upd_ _ rfl (Or.inl ?_), fun z => ⟨fun z2 => hq _ (fx_sI _ _ (by simp)) rfl ?_, fun z2 => upd_ _ rfl (Or.inr z2)⟩⟩
  · have := (nI_eq (b := 1) (by omega) (by omega)).mp z
    omega
  · have e0 : st.1 ≠ 0 := fun e => z (by rw [e]; rfl)
    unfold tkS
    rw [if_neg (by omega), if_neg (fun y => y.elim e0 (fun y => y z2))]
    refine ⟨?_, ?_, ?_, fun _ j hj => ?_, by show st.1 + 1 ≤ en; omega⟩
    · rw [gI_sI, if_neg (by decide)]; exact s1
    · rw [gI_sI, if_pos ⟨rfl, rfl⟩]
    · rw [gI_sI, if_neg (by decide)]; exact s3
    · rw [gI_sI, if_neg (fun y => absurd y.1 (by decide))]; exact s4 e0 j hj
