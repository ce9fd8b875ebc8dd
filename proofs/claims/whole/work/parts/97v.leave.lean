/-! The class's strip: all columns from one sum -/
variable {h : Hp}
theorem ok_inB {f : Nat → Int32} {r n t w k x : Nat} (hr : r ≤ 3) (hF : FB f n) (hN : NB f) (ht : t ≤ 12) (hw : w ≤ 12) (hk : k + 1 ≤ t) (kx : isKy f r n (k + 1) x) : okS f r t w (k + 1) x = true ↔ inB f r t w (k + 1) (Zk x) := by
  rw [okS_isKy hr hF hN ht (by omega) hw kx]
  exact (box_in hr (by omega) (fun j h1 h2 => isKy_0 hF (by omega) kx h1 h2)).symm
theorem lay_inB {f : Nat → Int32} {r n t w : Nat} (hr : r ≤ 3) (hF : FB f n) (hN : NB f) (ht : t ≤ 12) (hw : w ≤ 12) : ∀ k, k ≤ t → ∀ s, s ∈ lay f r n t w k → inB f r t w k (Zk s) := by
  intro k hk s hs
  cases k with
  | zero =>
    have hs : s ∈ [kNo 60 60 60] := hs
    rw [List.mem_singleton] at hs
    intro j hj
    rw [hs, Zk_0]
    unfold lb hb
    have e : ((0 : Nat) : Int) * (f (32 + j)).toInt = 0 := by simp
    rw [e, Int.neg_zero, Int.zero_ediv]
    by_cases g : j < r
    · rw [if_pos g, if_pos g]; omega
    · rw [if_neg g, if_neg g]; omega
  | succ k =>
    have kk := lay_isKy hF (show k + 1 ≤ 12 by omega) hs
    refine (ok_inB hr hF hN ht hw hk kk).mp ?_
    rw [lay, mem_nxI] at hs
    obtain ⟨i, c, hi, hc, e, ok⟩ := hs
    exact ok
/-- what reaching a cell by a column from a place does -/
def RP (f : Nat → Int32) (ρ a k x S c : Nat) (h h' : Hp) : Prop := Fx [a + 1] [a, a + 3] h h' ∧ (∀ y, gL h' a y = if y = k % 2 * ρ + x then gL h a y + gL h a S else gL h a y) ∧ (∀ y, y ≠ k % 2 * ρ + x → gI h' (a + 1) y = gI h (a + 1) y) ∧ (∀ p, p ≠ k * ρ + x → chP a h' p = chP a h p) ∧ (tkW (gL h a (k % 2 * ρ + x)) (gI h (a + 1) (k % 2 * ρ + x)) (gI h (a + 1) S + f (24 + c)) c (chP a h (k * ρ + x)) → gI h' (a + 1) (k % 2 * ρ + x) = gI h (a + 1) S + f (24 + c) ∧ chP a h' (k * ρ + x) = c) ∧ (¬ tkW (gL h a (k % 2 * ρ + x)) (gI h (a + 1) (k % 2 * ρ + x)) (gI h (a + 1) S + f (24 + c)) c (chP a h (k * ρ + x)) → gI h' (a + 1) (k % 2 * ρ + x) = gI h (a + 1) (k % 2 * ρ + x) ∧ chP a h' (k * ρ + x) = chP a h (k * ρ + x))
/-- a layer laid so far: the sums acc, by the steps D that are done -/
def TI (f : Nat → Int32) (r n t w k ρ a : Nat) (D : Nat → Nat → Bool) (acc : List Nat) (h : Hp) : Prop :=
  (∀ i, i < acc.length → gI h (a + 2) ((k + 1) % 2 * ρ + i) = nI (cl f r t w (k + 1) (Zk (acc.getD i 0)))) ∧
  (∀ x, x ∈ acc → gL h a ((k + 1) % 2 * ρ + cl f r t w (k + 1) (Zk x)) = lN (smN (fun c => if D x c = true then Vk f r n t w k (bk f (Zk x) c) else 0) n) ∧ BM (D x) (fun c => f (24 + c) + Rk f r n t w k (bk f (Zk x) c)) n (gI h (a + 1) ((k + 1) % 2 * ρ + cl f r t w (k + 1) (Zk x))) (chP a h ((k + 1) * ρ + cl f r t w (k + 1) (Zk x)))) ∧
  ∀ y, y < ρ → (∀ x, x ∈ acc → cl f r t w (k + 1) (Zk x) ≠ y) → gL h a ((k + 1) % 2 * ρ + y) = 0
theorem TI_congr {f : Nat → Int32} {r n t w k ρ a : Nat} {D D' : Nat → Nat → Bool} {acc : List Nat} (o : TI f r n t w k ρ a D acc h) (e : ∀ x c, x ∈ acc → c < n → D' x c = D x c) : TI f r n t w k ρ a D' acc h := by
  obtain ⟨o1, o2, o3⟩ := o
  refine ⟨o1, fun x hx => ⟨?_, BM_congr (o2 x hx).2 (fun c hc => e x c hx hc) (fun c _ => rfl)⟩, o3⟩
  rw [(o2 x hx).1]
  congr 1
  exact smN_congr (fun c hc => by rw [e x c hx hc])
theorem ga_eq {f : Nat → Int32} {v : Int32} {c : Nat} : v + f (24 + c) = f (24 + c) + v := Int32.add_comm _ _
theorem TI_old {f : Nat → Int32} {r n t w k ρ a x c S : Nat} {D D' : Nat → Nat → Bool} {acc : List Nat} {h' : Hp} (o : TI f r n t w k ρ a D acc h) (hx : x ∈ acc) (hc : c < n) (inj : ∀ y, y ∈ acc → y ≠ x → cl f r t w (k + 1) (Zk y) ≠ cl f r t w (k + 1) (Zk x)) (hne : gL h a ((k + 1) % 2 * ρ + cl f r t w (k + 1) (Zk x)) ≠ 0) (s1 : gL h a S = lN (Vk f r n t w k (bk f (Zk x) c))) (s2 : gI h (a + 1) S = Rk f r n t w k (bk f (Zk x) c)) (hD : D x c = false) (d1 : ∀ y c', y ≠ x → D' y c' = D y c') (d2 : ∀ c', D' x c' = (D x c' || decide (c' = c))) (R : RP f ρ a (k + 1) (cl f r t w (k + 1) (Zk x)) S c h h') : TI f r n t w k ρ a D' acc h' := by
  obtain ⟨o1, o2, o3⟩ := o
  obtain ⟨R1, R2, R3, R4, R5, R6⟩ := R
  refine ⟨fun i hi => ?_, fun y hy => ?_, fun y hy ny => ?_⟩
  · rw [fx_I R1 (x := a + 2) (by simp)]
    exact o1 i hi
  · by_cases g : y = x
    · subst g
      obtain ⟨p1, p2⟩ := o2 y hy
      refine ⟨?_, ?_⟩
      · rw [R2, if_pos rfl, p1, s1, lN_add]
        congr 1
        have := smN_upd (u := fun c => Vk f r n t w k (bk f (Zk y) c)) hD n
        rw [if_pos hc] at this
        rw [← this]
        exact smN_congr (fun c' _ => by rw [d2])
      · rw [s2] at R5 R6
        by_cases tk : tkW (gL h a ((k + 1) % 2 * ρ + cl f r t w (k + 1) (Zk y))) (gI h (a + 1) ((k + 1) % 2 * ρ + cl f r t w (k + 1) (Zk y))) (Rk f r n t w k (bk f (Zk y) c) + f (24 + c)) c (chP a h ((k + 1) * ρ + cl f r t w (k + 1) (Zk y)))
        · rw [(R5 tk).1, (R5 tk).2, Int32.add_comm]
          refine BM_congr (BM_take p2 hc ?_) (fun c' _ => d2 c') (fun _ _ => rfl)
          rw [Int32.add_comm] at tk
          rcases tk with q | q | q
          · exact absurd q hne
          · exact Or.inl q
          · exact Or.inr q
        · rw [(R6 tk).1, (R6 tk).2]
          refine BM_congr (BM_keep (c := c) p2 (fun q => tk ?_)) (fun c' _ => d2 c') (fun _ _ => rfl)
          rw [Int32.add_comm]
          exact Or.inr q
    · obtain ⟨p1, p2⟩ := o2 y hy
      have ne := inj y hy g
      rw [R2, if_neg (by omega), R3 _ (by omega), R4 _ (by omega), p1]
      refine ⟨?_, BM_congr p2 (fun c' _ => d1 y c' g) (fun _ _ => rfl)⟩
      congr 1
      exact smN_congr (fun c' _ => by rw [d1 y c' g])
  · rw [R2, if_neg (fun q => ny x hx (by omega))]
    exact o3 y hy ny
theorem getD_apx {l : List Nat} {x i : Nat} (hi : i < l.length) : (l ++ [x]).getD i 0 = l.getD i 0 := by
  rw [List.getD_eq_getElem?_getD, List.getD_eq_getElem?_getD, List.getElem?_append_left hi]
theorem getD_app2 {l : List Nat} {x : Nat} : (l ++ [x]).getD l.length 0 = x := by
  rw [List.getD_eq_getElem?_getD, List.getElem?_append_right (Nat.le_refl _), Nat.sub_self]
  rfl
theorem TI_new {f : Nat → Int32} {r n t w k ρ a x c S : Nat} {D D' : Nat → Nat → Bool} {acc : List Nat} {h' : Hp} (o : TI f r n t w k ρ a D acc h) (hx : x ∉ acc) (hc : c < n) (hcl : cl f r t w (k + 1) (Zk x) < ρ) (inj : ∀ y, y ∈ acc → cl f r t w (k + 1) (Zk y) ≠ cl f r t w (k + 1) (Zk x)) (s1 : gL h a S = lN (Vk f r n t w k (bk f (Zk x) c))) (s2 : gI h (a + 1) S = Rk f r n t w k (bk f (Zk x) c)) (hD : ∀ c', c' < n → D x c' = false) (d1 : ∀ y c', y ≠ x → D' y c' = D y c') (d2 : ∀ c', D' x c' = (D x c' || decide (c' = c))) (R : RP f ρ a (k + 1) (cl f r t w (k + 1) (Zk x)) S c h h') : TI f r n t w k ρ a D' (acc ++ [x]) (sI h' (a + 2) ((k + 1) % 2 * ρ + acc.length) (nI (cl f r t w (k + 1) (Zk x)))) := by
  obtain ⟨o1, o2, o3⟩ := o
  obtain ⟨R1, R2, R3, R4, R5, R6⟩ := R
  have z0 : gL h a ((k + 1) % 2 * ρ + cl f r t w (k + 1) (Zk x)) = 0 := o3 _ hcl (fun y hy => inj y hy)
  have r1 : ∀ y, gI (sI h' (a + 2) ((k + 1) % 2 * ρ + acc.length) (nI (cl f r t w (k + 1) (Zk x)))) (a + 1) y = gI h' (a + 1) y := fun y => by rw [gI_sI, if_neg (fun q => absurd q.1 (by omega))]
  have r2 : ∀ p, chP a (sI h' (a + 2) ((k + 1) % 2 * ρ + acc.length) (nI (cl f r t w (k + 1) (Zk x)))) p = chP a h' p := fun p => rfl
  refine ⟨fun i hi => ?_, fun y hy => ?_, fun y hy ny => ?_⟩
  · rw [List.length_append, List.length_singleton] at hi
    rw [gI_sI]
    by_cases g : i = acc.length
    · rw [if_pos ⟨rfl, by rw [g]⟩, g, getD_app2]
    · rw [if_neg (fun q => g (by omega)), fx_I R1 (x := a + 2) (by simp), o1 i (by omega), getD_apx (by omega)]
  · rw [gL_sI, r1, r2]
    rcases List.mem_append.mp hy with hy | hy
    · obtain ⟨p1, p2⟩ := o2 y hy
      have ne := inj y hy
      have g : y ≠ x := fun q => hx (q ▸ hy)
      rw [R2, if_neg (by omega), R3 _ (by omega), R4 _ (by omega), p1]
      refine ⟨?_, BM_congr p2 (fun c' _ => d1 y c' g) (fun _ _ => rfl)⟩
      congr 1
      exact smN_congr (fun c' _ => by rw [d1 y c' g])
    · rw [List.mem_singleton] at hy
      subst hy
      refine ⟨?_, ?_⟩
      · rw [R2, if_pos rfl, z0, s1, Int64.zero_add]
        congr 1
        have := smN_upd (u := fun c => Vk f r n t w k (bk f (Zk y) c)) (hD c hc) n
        rw [if_pos hc] at this
        have e0 : smN (fun c' => if D y c' = true then Vk f r n t w k (bk f (Zk y) c') else 0) n = 0 := by
          have := smN_le (F := fun c' => if D y c' = true then Vk f r n t w k (bk f (Zk y) c') else 0) (B := 0) (n := n) (fun c' hc' => by
            rw [hD c' hc', if_neg (by decide)]
            exact Nat.le_refl _)
          omega
        rw [e0, Nat.zero_add] at this
        rw [← this]
        exact smN_congr (fun c' _ => by rw [d2])
      · rw [s2] at R5
        have tk : tkW (gL h a ((k + 1) % 2 * ρ + cl f r t w (k + 1) (Zk y))) (gI h (a + 1) ((k + 1) % 2 * ρ + cl f r t w (k + 1) (Zk y))) (Rk f r n t w k (bk f (Zk y) c) + f (24 + c)) c (chP a h ((k + 1) * ρ + cl f r t w (k + 1) (Zk y))) := Or.inl z0
        rw [(R5 tk).1, (R5 tk).2, Int32.add_comm]
        exact BM_congr (BM_one (g := fun c => f (24 + c) + Rk f r n t w k (bk f (Zk y) c)) hc hD) (fun c' _ => d2 c') (fun _ _ => rfl)
  · rw [gL_sI, R2, if_neg (fun q => ny x (List.mem_append_right _ (List.mem_singleton.mpr rfl)) (by omega))]
    exact o3 y hy (fun x' hx' => ny x' (List.mem_append_left _ hx'))
/-- a layer stands -/
def SI (f : Nat → Int32) (r n t w k ρ a : Nat) (h : Hp) : Prop :=
  (∀ i, i < (lay f r n t w k).length → gI h (a + 2) (k % 2 * ρ + i) = nI (cl f r t w k (Zk ((lay f r n t w k).getD i 0)))) ∧
  (∀ s, s ∈ lay f r n t w k → gL h a (k % 2 * ρ + cl f r t w k (Zk s)) = lN (Vk f r n t w k (Zk s)) ∧ gI h (a + 1) (k % 2 * ρ + cl f r t w k (Zk s)) = Rk f r n t w k (Zk s)) ∧
  ∀ y, y < ρ → (∀ s, s ∈ lay f r n t w k → cl f r t w k (Zk s) ≠ y) → gL h a (k % 2 * ρ + y) = 0
/-- only the next layer changes -/
def LF (k ρ a : Nat) (h h' : Hp) : Prop := Fx [45, a + 1, a + 2] [a, a + 3] h h' ∧ (∀ y, y < ρ → gL h' a (k % 2 * ρ + y) = gL h a (k % 2 * ρ + y) ∧ gI h' (a + 1) (k % 2 * ρ + y) = gI h (a + 1) (k % 2 * ρ + y) ∧ gI h' (a + 2) (k % 2 * ρ + y) = gI h (a + 2) (k % 2 * ρ + y)) ∧ ∀ p, p < (k + 1) * ρ → chP a h' p = chP a h p
theorem LF_refl {k ρ a : Nat} : LF k ρ a h h := ⟨fx_refl _ _ _, fun _ _ => ⟨rfl, rfl, rfl⟩, fun _ _ => rfl⟩
theorem LF_trans {k ρ a : Nat} {h1 h2 : Hp} (x : LF k ρ a h h1) (y : LF k ρ a h1 h2) : LF k ρ a h h2 := ⟨fx_trans x.1 y.1, fun q hq => ⟨((y.2.1 q hq).1).trans (x.2.1 q hq).1, ((y.2.1 q hq).2.1).trans (x.2.1 q hq).2.1, ((y.2.1 q hq).2.2).trans (x.2.1 q hq).2.2⟩, fun p hp => (y.2.2 p hp).trans (x.2.2 p hp)⟩
theorem half_ne {k ρ x y : Nat} (hx : x < ρ) (hy : y < ρ) : k % 2 * ρ + y ≠ (k + 1) % 2 * ρ + x := by
  rcases Nat.mod_two_eq_zero_or_one k with e | e
  · rw [e, show (k + 1) % 2 = 1 from by omega]; omega
  · rw [e, show (k + 1) % 2 = 0 from by omega]; omega
theorem half_lt {k ρ x : Nat} (hx : x < ρ) : k % 2 * ρ + x < 2 * ρ := by
  rcases Nat.mod_two_eq_zero_or_one k with e | e
  · rw [e]; omega
  · rw [e]; omega
theorem LF_RP {f : Nat → Int32} {k ρ a x S c : Nat} {h' : Hp} (hx : x < ρ) (R : RP f ρ a (k + 1) x S c h h') : LF k ρ a h h' := by
  obtain ⟨R1, R2, R3, R4, R5, R6⟩ := R
  refine ⟨fx_mono R1 (by simp) (by simp), fun y hy => ⟨?_, ?_, ?_⟩, fun p hp => R4 p (by omega)⟩
  · rw [R2, if_neg (half_ne hx hy)]
  · exact R3 _ (half_ne hx hy)
  · rw [fx_I R1 (x := a + 2) (by simp)]
theorem LF_sI {k ρ a x : Nat} {v : Int32} (hx : x < ρ) : LF k ρ a h (sI h (a + 2) ((k + 1) % 2 * ρ + x) v) := by
  refine ⟨fx_sI _ _ (by simp), fun y hy => ⟨rfl, ?_, ?_⟩, fun p hp => rfl⟩
  · rw [gI_sI, if_neg (fun q => absurd q.1 (by omega))]
  · rw [gI_sI, if_neg (fun q => half_ne hx hy q.2)]
theorem SI_LF {f : Nat → Int32} {r n t w k ρ a : Nat} {h' : Hp} (o : SI f r n t w k ρ a h) (x : LF k ρ a h h') (hl : (lay f r n t w k).length ≤ ρ) (hc : ∀ s, s ∈ lay f r n t w k → cl f r t w k (Zk s) < ρ) : SI f r n t w k ρ a h' := by
  obtain ⟨o1, o2, o3⟩ := o
  refine ⟨fun i hi => ?_, fun s hs => ⟨?_, ?_⟩, fun y hy ny => ?_⟩
  · rw [(x.2.1 i (by omega)).2.2]; exact o1 i hi
  · rw [(x.2.1 _ (hc s hs)).1]; exact (o2 s hs).1
  · rw [(x.2.1 _ (hc s hs)).2.1]; exact (o2 s hs).2
  · rw [(x.2.1 y hy).1]; exact o3 y hy ny
/-- cells of a list of sums: none twice, so no more than there is room -/
theorem cl_len {f : Nat → Int32} {r n t w k ρ : Nat} {acc : List Nat} (hr1 : 1 ≤ r) (hr : r ≤ 3) (hw : w ≤ 12) (hρ : 25 ^ r ≤ ρ) (ok : kOK f r n k acc) (b : ∀ x, x ∈ acc → inB f r t w k (Zk x)) : acc.length ≤ ρ := by
  refine nodup_map_le (F := fun x => cl f r t w k (Zk x)) (l := acc) ?_ (fun x hx => Nat.lt_of_lt_of_le (cl_lt hw hr1 hr (b x hx)) hρ)
  have key : ∀ l : List Nat, l.Nodup → (∀ x, x ∈ l → inB f r t w k (Zk x)) → (l.map (fun x => cl f r t w k (Zk x))).Nodup := by
    intro l
    induction l with
    | nil => intro _ _; exact List.nodup_nil
    | cons y l ih =>
      intro hn hb
      rw [List.nodup_cons] at hn
      rw [List.map_cons, List.nodup_cons]
      refine ⟨fun q => ?_, ih hn.2 (fun x hx => hb x (List.mem_cons_of_mem _ hx))⟩
      obtain ⟨z, hz, e⟩ := List.mem_map.mp q
      have := Zk_inj (cl_inj (hb z (List.mem_cons_of_mem _ hz)) (hb y List.mem_cons_self) e)
      exact hn.1 (this ▸ hz)
  exact key acc ok.1 b
