/-! The class's tape: words -/
variable {h : Hp}
theorem ix_let {c d : Int32} (hc : isLb c = true) (hd : isLb d = true) (e : ix c = ix d) : c = d := by
  obtain ⟨x, -, -, e1, e2⟩ := isLb_nI hc
  obtain ⟨y, -, -, e3, e4⟩ := isLb_nI hd
  rw [e1, e3, ← e2, ← e4, e]
theorem wr_iff {B B' : Nat → Int32} {a a' : Nat} : ∀ n n', (∀ i, i < n → isLb (B (a + i)) = true) → (∀ i, i < n' → isLb (B' (a' + i)) = true) → (wr B a n = wr B' a' n' ↔ n = n' ∧ ∀ i, i < n → B (a + i) = B' (a' + i)) := by
  intro n
  induction n with
  | zero =>
    intro n' _ _
    cases n' with
    | zero => exact ⟨fun _ => ⟨rfl, fun i hi => absurd hi (Nat.not_lt_zero _)⟩, fun _ => rfl⟩
    | succ n' => exact ⟨fun q => (by rw [wr, wr] at q; cases q), fun q => absurd q.1 (by omega)⟩
  | succ n ih =>
    intro n' h1 h2
    cases n' with
    | zero => exact ⟨fun q => (by rw [wr, wr] at q; cases q), fun q => absurd q.1 (by omega)⟩
    | succ n' =>
      have := ih n' (fun i hi => h1 i (by omega)) (fun i hi => h2 i (by omega))
      rw [wr, wr]
      constructor
      · intro q
        injection q with q1 q2
        obtain ⟨e1, e2⟩ := this.mp q2
        subst e1
        refine ⟨rfl, fun i hi => ?_⟩
        by_cases g : i = n
        · subst g
          exact ix_let (h1 i (by omega)) (h2 i (by omega)) q1
        · exact e2 i (by omega)
      · rintro ⟨e1, e2⟩
        have e1 : n = n' := by omega
        subst e1
        rw [this.mpr ⟨rfl, fun i hi => e2 i (by omega)⟩, e2 n (by omega)]
theorem t_JS_length {v : Nat} {Q : Int32 → Hp → Prop} (hv : v < 5) (hq : Q (nI (lenS.getD v 0)) h) : w_JS_length v h Q := by
  unfold w_JS_length w_JS_coder
  refine ⟨hv, fun z => absurd z (by decide), fun _ => ⟨hv, by decide, ?_⟩⟩
  have e : jshr (Int32.ofNat (lenS.getD v 0)) 0 = nI (lenS.getD v 0) := by
    match v, hv with
    | 0, _ => decide
    | 1, _ => decide
    | 2, _ => decide
    | 3, _ => decide
    | 4, _ => decide
  dsimp only
  rw [e]
  exact hq
/-- the letters of a word of the text -/
def wB (v i : Nat) : Int32 := (bytS.getD v []).getD i 0
theorem wB_c : ∀ v, v < 5 → ∀ i, i < lenS.getD v 0 → jchar (wB v i &&& 255) = wB v i ∧ isLb (wB v i) = true := by decide
theorem nar_c {x : Int32} (hx : isLb x = true) : narrow .char (.int x) = .int x := by
  obtain ⟨y, h1, h2, e, -⟩ := isLb_nI hx
  subst e
  have : ∀ y, y < 123 → narrow .char (.int (nI y)) = .int (nI y) := by decide
  exact this y (by omega)
theorem t_JS_charAt {v i : Nat} {Q : Int32 → Hp → Prop} (hv : v < 5) (hi : i < lenS.getD v 0) (hq : Q (wB v i) h) : w_JS_charAt v (nI i) h Q := by
  have hl : lenS.getD v 0 ≤ 6 := by
    match v, hv with
    | 0, _ => decide
    | 1, _ => decide
    | 2, _ => decide
    | 3, _ => decide
    | 4, _ => decide
  obtain ⟨c1, c2⟩ := wB_c v hv i hi
  have c1' : jchar ((bytS.getD v []).getD i 0 &&& 255) = wB v i := c1
  have nr := nar_c c2
  unfold w_JS_charAt w_JS_isLatin1 w_JL_charAt w_JS_checkIndex w_JP_checkIndex
  rw [ix_nI (by omega), c1']
  exact ⟨hv, fun z => absurd z (by decide), fun _ => ⟨hv, fun _ => ⟨fun z => absurd z (by decide), fun _ => ⟨hv, hv, fun z1 => ⟨fun z => absurd z (nI_nlt (b := 0) (Nat.zero_le _) (by omega)), fun _ => ⟨fun _ => ⟨hv, vp_in_nI hi (by omega), nr, nr, hq⟩, fun z => absurd (nI_lt hi (by omega)) z⟩⟩⟩⟩, fun z => absurd rfl z⟩⟩
theorem wAll_wr : ∀ v, v < 5 → wAll.getD v [] = wr (wB v) 0 (lenS.getD v 0) := by decide
theorem t_Tp_isWord {B : Nat → Int32} {N p v : Nat} {Q : Bool → Hp → Prop} (m : XS h) (o : TY B N h) (r : RY B N p h) (hv : v < 5) (hq : Q (isK B N p (wAll.getD v [])) h) : w_Tp_isWord 17 v h Q := by
  have hN := o.1
  have hl : 0 < lenS.getD v 0 ∧ lenS.getD v 0 ≤ 6 := by
    match v, hv with
    | 0, _ => decide
    | 1, _ => decide
    | 2, _ => decide
    | 3, _ => decide
    | 4, _ => decide
  unfold w_Tp_isWord
  rw [r.1, r.2.1, r.2.2]
  by_cases hk : kd B N p = 1
  · obtain ⟨k1, k2, k3, k4, k5⟩ := kd_word hk
    have b := sp_gt (B := B) (N := N) (p := p) (by omega)
    have lw : ∀ i, i < lenS.getD v 0 → isLb (wB v (0 + i)) = true := fun i hi => by rw [Nat.zero_add]; exact (wB_c v hv i hi).2
    have iff := wr_iff (B := B) (B' := wB v) (a := pl B N p) (a' := 0) (sp B N p - pl B N p) (lenS.getD v 0) k5 lw
    have plsp : pl B N p ≤ sp B N p := by
      have := (ru_sp isL_f (B := B) (N := N) (pl B N p)).1
      rw [k3]
      exact this
    have yes : (sp B N p - pl B N p = lenS.getD v 0 ∧ ∀ i, i < sp B N p - pl B N p → B (pl B N p + i) = wB v (0 + i)) → Q true h := fun q => by
      have e : isK B N p (wAll.getD v []) = true := by
        unfold isK wd
        rw [wAll_wr v hv, decide_eq_true hk, decide_eq_true (iff.mpr q)]
        rfl
      rw [e] at hq
      exact hq
    have no : ¬ (sp B N p - pl B N p = lenS.getD v 0 ∧ ∀ i, i < sp B N p - pl B N p → B (pl B N p + i) = wB v (0 + i)) → Q false h := fun q => by
      have e : isK B N p (wAll.getD v []) = false := by
        unfold isK wd
        rw [wAll_wr v hv, decide_eq_false (fun g => q (iff.mp g)), Bool.and_false]
      rw [e] at hq
      exact hq
    rw [hk, pk_sub plsp]
    refine ⟨X_k17 m, fun _ => ⟨hv, t_JS_length hv ⟨fun z => ?_, fun z => no (fun q => z (by rw [q.1]))⟩⟩, fun z => absurd rfl z⟩
    have el : sp B N p - pl B N p = lenS.getD v 0 := (nI_eq (by omega) (by omega)).mp z
    have go : ∀ k i, i + k = lenS.getD v 0 → (∀ j, j < i → B (pl B N p + j) = wB v (0 + j)) → ∃ q, w_Tp_isWord_L28 Q 17 v q (nI i) h := by
      intro k
      induction k with
      | zero =>
        intro i hi all
        refine ⟨1, ?_⟩
        unfold w_Tp_isWord_L28
        refine ⟨hv, t_JS_length hv ⟨fun _ => yes ⟨el, fun j hj => all j (by omega)⟩, fun z => absurd (nI_le (by omega) (by omega)) z⟩⟩
      | succ k ih =>
        intro i hi all
        by_cases g : B (pl B N p + i) = wB v (0 + i)
        · obtain ⟨q, hq'⟩ := ih (i + 1) (by omega) (fun j hj => by
            by_cases e : j = i
            · rw [e]; exact g
            · exact all j (by omega))
          refine ⟨q + 1, ?_⟩
          rw [Nat.zero_add] at g
          unfold w_Tp_isWord_L28
          refine ⟨hv, t_JS_length hv ⟨fun z => absurd z (nI_ge (by omega) (by omega)), fun _ => ⟨X_k17 m, ?_⟩⟩⟩
          rw [o.2.1, r.2.1, nI_add, X_r17_0 m, X_n18 m]
          refine ⟨fun z => absurd z (nI_ge (by omega) (by omega)), fun _ => ⟨X_k18 m, vp_in_nI (by omega) (by omega), hv, t_JS_charAt hv (by omega) ?_⟩⟩
          rw [ix_nI (by omega), o.2.2 _ (by omega), nI_1]
          exact ⟨fun _ => hq', fun z => absurd g z⟩
        · refine ⟨1, ?_⟩
          have n2 := no (fun q => g (q.2 i (by omega)))
          rw [Nat.zero_add] at g
          unfold w_Tp_isWord_L28
          refine ⟨hv, t_JS_length hv ⟨fun z => absurd z (nI_ge (by omega) (by omega)), fun _ => ⟨X_k17 m, ?_⟩⟩⟩
          rw [o.2.1, r.2.1, nI_add, X_r17_0 m, X_n18 m]
          refine ⟨fun z => absurd z (nI_ge (by omega) (by omega)), fun _ => ⟨X_k18 m, vp_in_nI (by omega) (by omega), hv, t_JS_charAt hv (by omega) ?_⟩⟩
          rw [ix_nI (by omega), o.2.2 _ (by omega)]
          exact ⟨fun z => absurd z g, fun _ => n2⟩
    exact go (lenS.getD v 0) 0 (by omega) (fun j hj => absurd hj (Nat.not_lt_zero _))
  · have k6 := kd_6 B N p
    have e : isK B N p (wAll.getD v []) = false := by
      unfold isK
      rw [decide_eq_false hk, Bool.false_and]
    rw [e] at hq
    refine ⟨X_k17 m, fun z => ?_, fun _ => hq⟩
    have e2 : kcl (kd B N p) = 2 := by
      refine (nI_eq (b := 2) ?_ (by omega)).mp z
      unfold kcl
      split <;> omega
    exfalso
    generalize kd B N p = x at hk e2 k6
    match x, k6 with
    | 0, _ => exact absurd e2 (by decide)
    | 1, _ => exact hk rfl
    | 2, _ => exact absurd e2 (by decide)
    | 3, _ => exact absurd e2 (by decide)
    | 4, _ => exact absurd e2 (by decide)
    | 5, _ => exact absurd e2 (by decide)
theorem kcl_eq {B : Nat → Int32} {N p : Nat} {k : Nat} (hk : k < 6) : nI (kcl (kd B N p)) = nI (kcl k) ↔ kd B N p = k := by
  have k6 := kd_6 B N p
  have lt : ∀ x, kcl x < 6 := fun x => by
    unfold kcl
    split <;> omega
  rw [nI_eq (by have := lt (kd B N p); omega) (by have := lt k; omega)]
  have inj : ∀ x, x < 6 → ∀ y, y < 6 → kcl x = kcl y → x = y := by decide
  exact ⟨fun q => inj _ k6 _ hk q, fun q => by rw [q]⟩
theorem t_Tp_isSameAs {B : Nat → Int32} {N p a e : Nat} {Q : Bool → Hp → Prop} (m : XS h) (o : TY B N h) (r : RY B N p h) (hk : kd B N p = 1) (hae : a ≤ e) (heN : e ≤ N) (hl : ∀ i, i < e - a → isLb (B (a + i)) = true) (hq : Q (decide (wd B N p = wr B a (e - a))) h) : w_Tp_isSameAs 17 (nI a) (nI e) h Q := by
  have hN := o.1
  obtain ⟨k1, k2, k3, k4, k5⟩ := kd_word hk
  have b := sp_gt (B := B) (N := N) (p := p) (by omega)
  have iff := wr_iff (B := B) (B' := B) (a := pl B N p) (a' := a) (sp B N p - pl B N p) (e - a) k5 hl
  have plsp : pl B N p ≤ sp B N p := by
    have := (ru_sp isL_f (B := B) (N := N) (pl B N p)).1
    rw [k3]
    exact this
  have yes : (sp B N p - pl B N p = e - a ∧ ∀ i, i < sp B N p - pl B N p → B (pl B N p + i) = B (a + i)) → Q true h := fun q => by
    rw [decide_eq_true (show wd B N p = wr B a (e - a) from iff.mpr q)] at hq
    exact hq
  have no : ¬ (sp B N p - pl B N p = e - a ∧ ∀ i, i < sp B N p - pl B N p → B (pl B N p + i) = B (a + i)) → Q false h := fun q => by
    rw [decide_eq_false (p := wd B N p = wr B a (e - a)) (fun g => q (iff.mp g))] at hq
    exact hq
  unfold w_Tp_isSameAs
  rw [r.2.1, r.2.2, pk_sub hae, pk_sub plsp]
  refine ⟨X_k17 m, fun z => ?_, fun z => no (fun q => z (by rw [q.1]))⟩
  have el : e - a = sp B N p - pl B N p := (nI_eq (by omega) (by omega)).mp z
  have go : ∀ k i, i + k = e - a → (∀ j, j < i → B (pl B N p + j) = B (a + j)) → ∃ q, w_Tp_isSameAs_L19 Q 17 (nI a) q (nI i) h := by
    intro k
    induction k with
    | zero =>
      intro i hi all
      refine ⟨1, ?_⟩
      unfold w_Tp_isSameAs_L19
      rw [r.2.1, r.2.2, nI_add]
      exact ⟨X_k17 m, fun _ => yes ⟨el.symm, fun j hj => all j (by omega)⟩, fun z => absurd (nI_le (by omega) (by omega)) z⟩
    | succ k ih =>
      intro i hi all
      by_cases g : B (pl B N p + i) = B (a + i)
      · obtain ⟨q, hq'⟩ := ih (i + 1) (by omega) (fun j hj => by
          by_cases e : j = i
          · rw [e]; exact g
          · exact all j (by omega))
        refine ⟨q + 1, ?_⟩
        unfold w_Tp_isSameAs_L19
        rw [r.2.1, r.2.2, nI_add, nI_add, X_r17_0 m, X_n18 m, ix_nI (n := pl B N p + i) (by omega), ix_nI (n := a + i) (by omega), o.2.2 (pl B N p + i) (by omega), o.2.2 (a + i) (by omega), nI_1]
        exact ⟨X_k17 m, fun z => absurd z (nI_ge (by omega) (by omega)), fun _ => ⟨X_k18 m, vp_in_nI (by omega) (by omega), vp_in_nI (by omega) (by omega), fun _ => hq', fun z => absurd g z⟩⟩
      · refine ⟨1, ?_⟩
        unfold w_Tp_isSameAs_L19
        rw [r.2.1, r.2.2, nI_add, nI_add, X_r17_0 m, X_n18 m, ix_nI (n := pl B N p + i) (by omega), ix_nI (n := a + i) (by omega), o.2.2 (pl B N p + i) (by omega), o.2.2 (a + i) (by omega)]
        exact ⟨X_k17 m, fun z => absurd z (nI_ge (by omega) (by omega)), fun _ => ⟨X_k18 m, vp_in_nI (by omega) (by omega), vp_in_nI (by omega) (by omega), fun z => absurd z g, fun _ => no (fun q => g (q.2 i (by omega)))⟩⟩
  exact go (e - a) 0 (by omega) (fun j hj => absurd hj (Nat.not_lt_zero _))
