/-! Lines solved without fractions: what comes out is right -/
/-- behind i steps -/
def BI (M : Mx) (lines m i : Nat) (x : Mx × Int) : Prop := (∀ y z, Hm x.1 lines m y z ↔ Hm M lines m y z) ∧ (∃ B : Mx, (∀ o t, o < 4 → t < 5 → (B o t).natAbs ≤ 20) ∧ (∀ o t, o < 4 → t < 5 → x.1 o t = EF B i o t) ∧ x.2 = dF B i) ∧ x.2 ≠ 0 ∧ ∀ o c, o < lines → c < i → x.1 o c = if o = c then x.2 else 0
theorem barR_sp {M : Mx} {lines m : Nat} (hl : lines ≤ 4) (hm : m ≤ 4) (hb : ∀ o t, o < 4 → t < 5 → (M o t).natAbs ≤ 20) : ∀ i, i ≤ m → i ≤ lines → ∀ x, barR M lines i = some x → BI M lines m i x := by
  intro i
  induction i with
  | zero =>
    intro _ _ x hx
    rw [barR] at hx
    injection hx with hx
    rw [← hx]
    exact ⟨fun y z => Iff.rfl, ⟨M, hb, fun o t _ _ => rfl, rfl⟩, (by decide : (1 : Int) ≠ 0), fun o c _ hc => absurd hc (Nat.not_lt_zero _)⟩
  | succ i ih =>
    intro him hil x hx
    rw [barR] at hx
    cases e : barR M lines i with
    | none => rw [e] at hx; cases hx
    | some w =>
      rw [e] at hx
      dsimp only at hx
      obtain ⟨s1, ⟨B, b1, b2, b3⟩, s3, s4⟩ := ih (by omega) (by omega) w e
      by_cases g : fpv w.1 i lines < lines
      · rw [if_pos g] at hx
        injection hx with hx
        obtain ⟨q1, q2, q3⟩ := fpv_sp (by omega) g
        generalize fpv w.1 i lines = q at g q1 q2 q3 hx
        have hp : swp w.1 i q i i ≠ 0 := by
          unfold swp
          rw [if_pos rfl]
          exact q2
        have nb : ∀ o t, o < 4 → t < 5 → swp w.1 i q o t = EF (swp B i q) i o t := fun o t ho ht => by
          rw [EF_swp B t (by omega) q1 ho (by omega)]
          unfold swp
          split
          · exact b2 q t (by omega) ht
          · split
            · exact b2 i t (by omega) ht
            · exact b2 o t ho ht
        have sw : ∀ o c, o < lines → c < i → swp w.1 i q o c = if o = c then w.2 else 0 := fun o c ho hc => by
          unfold swp
          by_cases e1 : o = i
          · rw [if_pos e1, s4 q c g hc, if_neg (by omega), if_neg (by omega)]
          · rw [if_neg e1]
            by_cases e2 : o = q
            · rw [if_pos e2, s4 i c (by omega) hc, if_neg (by omega), if_neg (by omega)]
            · rw [if_neg e2]; exact s4 o c ho hc
        have ex : ∀ o t, o < 4 → o ≠ i → t < 5 → w.2 * EF (swp B i q) (i + 1) o t = swp w.1 i q i i * swp w.1 i q o t - swp w.1 i q o i * swp w.1 i q i t := fun o t ho hne ht => by
          rw [nb i i (by omega) (by omega), nb o t ho ht, nb o i ho (by omega), nb i t (by omega) ht, ← EF_step (swp B i q) t (by omega) ho hne, b3, dF_swp B (by omega) q1]
        have sb : ∀ o t, o < 4 → t < 5 → stpB (swp w.1 i q) w.2 i o t = EF (swp B i q) (i + 1) o t := fun o t ho ht => by
          unfold stpB
          by_cases e1 : o = i
          · rw [if_pos e1, e1, EF_same _ t (by omega)]; exact nb i t (by omega) ht
          · rw [if_neg e1, ← ex o t ho e1 ht, Int.mul_ediv_cancel_left _ s3]
        rw [← hx]
        refine ⟨fun y z => ?_, ⟨swp B i q, fun o t ho ht => ?_, sb, ?_⟩, hp, fun o c ho hc => ?_⟩
        · dsimp only
          rw [stp_H (by omega) s3 hp (fun o t ho hne ht => ?_), swp_H (by omega) g, s1]
          rw [sb o t (by omega) (by omega)]
          exact ex o t (by omega) hne (by omega)
        · unfold swp
          split
          · exact b1 q t (by omega) ht
          · split
            · exact b1 i t (by omega) ht
            · exact b1 o t ho ht
        · dsimp only
          rw [nb i i (by omega) (by omega), EF_piv _ (by omega)]
        · dsimp only
          by_cases e1 : o = i
          · rw [e1]
            unfold stpB
            rw [if_pos rfl]
            by_cases e2 : c = i
            · rw [e2, if_pos rfl]
            · rw [sw i c (by omega) (by omega), if_neg (by omega), if_neg (by omega)]
          · unfold stpB
            rw [if_neg e1]
            by_cases e2 : c = i
            · rw [e2, if_neg (by omega), Int.mul_comm, Int.sub_self]
              exact Int.zero_ediv _
            · rw [sw o c ho (by omega), sw i c (by omega) (by omega), if_neg (show ¬ i = c by omega), Int.mul_zero, Int.sub_zero]
              by_cases e3 : o = c
              · rw [if_pos e3, if_pos e3, Int.mul_ediv_cancel _ s3]
              · rw [if_neg e3, if_neg e3, Int.mul_zero]
                exact Int.zero_ediv _
      · rw [if_neg g] at hx; cases hx
/-- the columns don't depend on one another -/
def Ind (M : Mx) (lines m : Nat) : Prop := ∀ y, Hm M lines m y 0 → ∀ i, i < m → y i = 0
/-- more than 0 of each -/
def Sol (M : Mx) (lines m : Nat) (y : Nat → Int) (z : Int) : Prop := 0 < z ∧ (∀ i, i < m → 0 < y i) ∧ Hm M lines m y z
theorem sZ_diag {d : Int} {y : Nat → Int} {m o : Nat} {F : Nat → Int} (h : ∀ c, c < m → F c = if o = c then d else 0) : sZ (fun c => F c * y c) m = if o < m then d * y o else 0 := by
  by_cases e : o < m
  · rw [if_pos e, sZ_one e (fun c hc hne => by rw [h c hc, if_neg (by omega), Int.zero_mul]), h o e, if_pos rfl]
  · rw [if_neg e, sZ_0 (fun c hc => by rw [h c hc, if_neg (by omega), Int.zero_mul])]
theorem bar_no {M : Mx} {lines m : Nat} (hl : lines ≤ 4) (hm : m ≤ lines) (hb : ∀ o t, o < 4 → t < 5 → (M o t).natAbs ≤ 20) : ∀ i, i ≤ m → barR M lines i = none → ¬ Ind M lines m := by
  intro i
  induction i with
  | zero => intro _ h; rw [barR] at h; cases h
  | succ i ih =>
    intro hi h
    rw [barR] at h
    cases e : barR M lines i with
    | none => exact ih (by omega) e
    | some w =>
      rw [e] at h
      dsimp only at h
      by_cases g : fpv w.1 i lines < lines
      · rw [if_pos g] at h; cases h
      · intro ind
        obtain ⟨s1, -, s3, s4⟩ := barR_sp (m := m) hl (by omega) hb i (by omega) (by omega) w e
        have z0 := fpv_no g
        have := ind (fun c => if c < i then -(w.1 c i) else if c = i then w.2 else 0) ((s1 _ _).mp (fun o ho => ?_)) i (by omega)
        · rw [if_neg (by omega), if_pos rfl] at this
          exact s3 this
        · unfold lnH
          rw [Int.mul_zero]
          have : ∀ k, sZ (fun c => w.1 o c * (if c < i then -(w.1 c i) else if c = i then w.2 else 0)) (i + 1 + k) = sZ (fun c => w.1 o c * (if c < i then -(w.1 c i) else if c = i then w.2 else 0)) (i + 1) := fun k => by
            induction k with
            | zero => rfl
            | succ k ih2 =>
              rw [← Nat.add_assoc, sZ, ih2, if_neg (by omega), if_neg (by omega), Int.mul_zero, Int.add_zero]
          rw [show m = i + 1 + (m - (i + 1)) from by omega, this, sZ, if_neg (by omega), if_pos rfl]
          have e2 : sZ (fun c => w.1 o c * (if c < i then -(w.1 c i) else if c = i then w.2 else 0)) i = sZ (fun c => w.1 o c * (-(w.1 c i))) i := sZ_congr (fun c hc => by rw [if_pos hc])
          rw [e2, sZ_diag (d := w.2) (y := fun c => -(w.1 c i)) (o := o) (fun c hc => s4 o c ho hc)]
          by_cases g2 : o < i
          · rw [if_pos g2, Int.mul_comm (w.1 o i), Int.mul_neg]; omega
          · rw [if_neg g2, z0 o (by omega) ho, Int.zero_mul]; rfl
def bar (M : Mx) (lines m : Nat) : Option (Mx × Int) := match barR M lines m with
  | none => none
  | some x => if (∀ o, o < lines → m ≤ o → x.1 o m = 0) ∧ ∀ i, i < m → 0 < (if x.2 < 0 then -1 else 1) * x.1 i m then some x else none
/-- the solution -/
def byY (x : Mx × Int) (m i : Nat) : Int := (if x.2 < 0 then -1 else 1) * x.1 i m
def byZ (x : Mx × Int) : Int := (if x.2 < 0 then -1 else 1) * x.2
theorem bar_eq {M : Mx} {lines m : Nat} {x : Mx × Int} (h : bar M lines m = some x) : barR M lines m = some x ∧ (∀ o, o < lines → m ≤ o → x.1 o m = 0) ∧ ∀ i, i < m → 0 < byY x m i := by
  unfold bar at h
  cases e : barR M lines m with
  | none => rw [e] at h; cases h
  | some w =>
    rw [e] at h
    dsimp only at h
    by_cases g : (∀ o, o < lines → m ≤ o → w.1 o m = 0) ∧ ∀ i, i < m → 0 < (if w.2 < 0 then -1 else 1) * w.1 i m
    · rw [if_pos g] at h
      injection h with h
      rw [← h]
      exact ⟨rfl, g⟩
    · rw [if_neg g] at h; cases h
theorem d2_bd {a b c d : Int} (ha : a.natAbs ≤ 20) (hb : b.natAbs ≤ 20) (hc : c.natAbs ≤ 20) (hd : d.natAbs ≤ 20) : (d2 a b c d).natAbs ≤ 800 := by
  have h1 := mulA ha hd
  have h2 := mulA hb hc
  unfold d2
  omega
theorem d3_bd {a b c d e f g h i : Int} (ha : a.natAbs ≤ 20) (hb : b.natAbs ≤ 20) (hc : c.natAbs ≤ 20) (hd : d.natAbs ≤ 20) (he : e.natAbs ≤ 20) (hf : f.natAbs ≤ 20) (hg : g.natAbs ≤ 20) (hh : h.natAbs ≤ 20) (hi : i.natAbs ≤ 20) : (d3 a b c d e f g h i).natAbs ≤ 48000 := by
  have e1 := d2_bd he hf hh hi
  have e2 := d2_bd hd hf hg hi
  have e3 := d2_bd hd he hg hh
  have h1 := mulA ha e1
  have h2 := mulA hb e2
  have h3 := mulA hc e3
  unfold d3
  unfold d2 at h1 h2 h3
  omega
theorem d4_bd {a b c d e f g h i j k l m n o p : Int} (ha : a.natAbs ≤ 20) (hb : b.natAbs ≤ 20) (hc : c.natAbs ≤ 20) (hd : d.natAbs ≤ 20) (he : e.natAbs ≤ 20) (hf : f.natAbs ≤ 20) (hg : g.natAbs ≤ 20) (hh : h.natAbs ≤ 20) (hi : i.natAbs ≤ 20) (hj : j.natAbs ≤ 20) (hk : k.natAbs ≤ 20) (hl : l.natAbs ≤ 20) (hm : m.natAbs ≤ 20) (hn : n.natAbs ≤ 20) (ho : o.natAbs ≤ 20) (hp : p.natAbs ≤ 20) : (d4 a b c d e f g h i j k l m n o p).natAbs ≤ 3840000 := by
  have h1 := mulA ha (d3_bd hf hg hh hj hk hl hn ho hp)
  have h2 := mulA hb (d3_bd he hg hh hi hk hl hm ho hp)
  have h3 := mulA hc (d3_bd he hf hh hi hj hl hm hn hp)
  have h4 := mulA hd (d3_bd he hf hg hi hj hk hm hn ho)
  unfold d4
  omega
theorem EF_bd {B : Mx} (b : ∀ o t, o < 4 → t < 5 → (B o t).natAbs ≤ 20) {i o t : Nat} (hi : i ≤ 4) (ho : o < 4) (ht : t < 5) : (EF B i o t).natAbs ≤ 3840000 ∧ (i ≤ 3 → o < i → (EF B i o t).natAbs ≤ 48000) := by
  have c := fun o t (ho : o < 4) (ht : t < 5) => b o t ho ht
  have r0 := fun t ht => b 0 t (by omega) ht
  have r1 := fun t ht => b 1 t (by omega) ht
  have r2 := fun t ht => b 2 t (by omega) ht
  have r3 := fun t ht => b 3 t (by omega) ht
  have ro := fun t ht => b o t ho ht
  have w2 : ∀ {x : Int}, x.natAbs ≤ 800 → x.natAbs ≤ 3840000 ∧ (i ≤ 3 → o < i → x.natAbs ≤ 48000) := fun h => ⟨by omega, fun _ _ => by omega⟩
  have w3 : ∀ {x : Int}, x.natAbs ≤ 48000 → x.natAbs ≤ 3840000 ∧ (i ≤ 3 → o < i → x.natAbs ≤ 48000) := fun h => ⟨by omega, fun _ _ => h⟩
  have w1 : ∀ {x : Int}, x.natAbs ≤ 20 → x.natAbs ≤ 3840000 ∧ (i ≤ 3 → o < i → x.natAbs ≤ 48000) := fun h => ⟨by omega, fun _ _ => by omega⟩
  match i, hi with
  | 0, _ => exact w1 (ro t ht)
  | 1, _ =>
    simp only [EF]
    split
    · exact w1 (r0 t ht)
    · exact w2 (d2_bd (r0 0 (by omega)) (r0 t ht) (ro 0 (by omega)) (ro t ht))
  | 2, _ =>
    simp only [EF]
    split
    · exact w2 (d2_bd (r0 t ht) (r0 1 (by omega)) (r1 t ht) (r1 1 (by omega)))
    · split
      · exact w2 (d2_bd (r0 0 (by omega)) (r0 t ht) (r1 0 (by omega)) (r1 t ht))
      · exact w3 (d3_bd (r0 0 (by omega)) (r0 1 (by omega)) (r0 t ht) (r1 0 (by omega)) (r1 1 (by omega)) (r1 t ht) (ro 0 (by omega)) (ro 1 (by omega)) (ro t ht))
  | 3, _ =>
    simp only [EF]
    split
    · exact w3 (d3_bd (r0 t ht) (r0 1 (by omega)) (r0 2 (by omega)) (r1 t ht) (r1 1 (by omega)) (r1 2 (by omega)) (r2 t ht) (r2 1 (by omega)) (r2 2 (by omega)))
    · split
      · exact w3 (d3_bd (r0 0 (by omega)) (r0 t ht) (r0 2 (by omega)) (r1 0 (by omega)) (r1 t ht) (r1 2 (by omega)) (r2 0 (by omega)) (r2 t ht) (r2 2 (by omega)))
      · split
        · exact w3 (d3_bd (r0 0 (by omega)) (r0 1 (by omega)) (r0 t ht) (r1 0 (by omega)) (r1 1 (by omega)) (r1 t ht) (r2 0 (by omega)) (r2 1 (by omega)) (r2 t ht))
        · exact ⟨d4_bd (r0 0 (by omega)) (r0 1 (by omega)) (r0 2 (by omega)) (r0 t ht) (r1 0 (by omega)) (r1 1 (by omega)) (r1 2 (by omega)) (r1 t ht) (r2 0 (by omega)) (r2 1 (by omega)) (r2 2 (by omega)) (r2 t ht) (ro 0 (by omega)) (ro 1 (by omega)) (ro 2 (by omega)) (ro t ht), fun _ h => by omega⟩
  | 4, _ =>
    simp only [EF]
    split
    · exact ⟨d4_bd (r0 t ht) (r0 1 (by omega)) (r0 2 (by omega)) (r0 3 (by omega)) (r1 t ht) (r1 1 (by omega)) (r1 2 (by omega)) (r1 3 (by omega)) (r2 t ht) (r2 1 (by omega)) (r2 2 (by omega)) (r2 3 (by omega)) (r3 t ht) (r3 1 (by omega)) (r3 2 (by omega)) (r3 3 (by omega)), fun h => by omega⟩
    · split
      · exact ⟨d4_bd (r0 0 (by omega)) (r0 t ht) (r0 2 (by omega)) (r0 3 (by omega)) (r1 0 (by omega)) (r1 t ht) (r1 2 (by omega)) (r1 3 (by omega)) (r2 0 (by omega)) (r2 t ht) (r2 2 (by omega)) (r2 3 (by omega)) (r3 0 (by omega)) (r3 t ht) (r3 2 (by omega)) (r3 3 (by omega)), fun h => by omega⟩
      · split
        · exact ⟨d4_bd (r0 0 (by omega)) (r0 1 (by omega)) (r0 t ht) (r0 3 (by omega)) (r1 0 (by omega)) (r1 1 (by omega)) (r1 t ht) (r1 3 (by omega)) (r2 0 (by omega)) (r2 1 (by omega)) (r2 t ht) (r2 3 (by omega)) (r3 0 (by omega)) (r3 1 (by omega)) (r3 t ht) (r3 3 (by omega)), fun h => by omega⟩
        · exact ⟨d4_bd (r0 0 (by omega)) (r0 1 (by omega)) (r0 2 (by omega)) (r0 t ht) (r1 0 (by omega)) (r1 1 (by omega)) (r1 2 (by omega)) (r1 t ht) (r2 0 (by omega)) (r2 1 (by omega)) (r2 2 (by omega)) (r2 t ht) (r3 0 (by omega)) (r3 1 (by omega)) (r3 2 (by omega)) (r3 t ht), fun h => by omega⟩
theorem bar_ok {M : Mx} {lines m : Nat} {x : Mx × Int} (hl : lines ≤ 4) (hm : m ≤ lines) (hb : ∀ o t, o < 4 → t < 5 → (M o t).natAbs ≤ 20) (h : bar M lines m = some x) : Ind M lines m ∧ Sol M lines m (byY x m) (byZ x) ∧ (m ≤ 3 → byZ x ≤ 48000 ∧ ∀ i, i < m → byY x m i ≤ 48000) ∧ byZ x ≤ 3840000 ∧ ∀ i, i < m → byY x m i ≤ 3840000 := by
  obtain ⟨e1, e2, e3⟩ := bar_eq h
  obtain ⟨s1, ⟨B, b1, b2, b3⟩, s3, s4⟩ := barR_sp hl (by omega) hb m (Nat.le_refl _) hm x e1
  have hz : 0 < byZ x := by
    unfold byZ
    split <;> omega
  refine ⟨fun y hy i hi => ?_, ⟨hz, e3, (s1 _ _).mp (fun o ho => ?_)⟩, fun hm3 => ?_, ?_, fun i hi => ?_⟩
  · have := (s1 y 0).mpr hy i (by omega)
    unfold lnH at this
    rw [sZ_diag (d := x.2) (o := i) (fun c hc => s4 i c (by omega) hc), if_pos hi, Int.mul_zero] at this
    exact (Int.mul_eq_zero.mp this).resolve_left s3
  · unfold lnH
    rw [sZ_diag (d := x.2) (y := byY x m) (o := o) (fun c hc => s4 o c ho hc)]
    by_cases g : o < m
    · rw [if_pos g]
      unfold byY byZ
      grind
    · rw [if_neg g, e2 o ho (by omega), Int.zero_mul]
  · have hd : ∀ k, k < m → byZ x = (if x.2 < 0 then -1 else 1) * x.1 k k := fun k hk => by
      rw [s4 k k (by omega) hk, if_pos rfl]
      rfl
    refine ⟨?_, fun i hi => ?_⟩
    · by_cases g : m = 0
      · subst g
        have : x.2 = 1 := b3
        unfold byZ
        rw [this]
        decide
      · rw [hd 0 (by omega), b2 0 0 (by omega) (by omega)]
        have := (EF_bd b1 (i := m) (o := 0) (t := 0) (by omega) (by omega) (by omega)).2 hm3 (by omega)
        split <;> omega
    · unfold byY
      rw [b2 i m (by omega) (by omega)]
      have := (EF_bd b1 (i := m) (o := i) (t := m) (by omega) (by omega) (by omega)).2 hm3 hi
      split <;> omega
  · by_cases g : m = 0
    · subst g
      have : x.2 = 1 := b3
      unfold byZ
      rw [this]
      decide
    · have e5 : x.2 = x.1 0 0 := by rw [s4 0 0 (by omega) (by omega), if_pos rfl]
      unfold byZ
      rw [e5, b2 0 0 (by omega) (by omega)]
      have := (EF_bd b1 (i := m) (o := 0) (t := 0) (by omega) (by omega) (by omega)).1
      split <;> omega
  · unfold byY
    rw [b2 i m (by omega) (by omega)]
    have := (EF_bd b1 (i := m) (o := i) (t := m) (by omega) (by omega) (by omega)).1
    split <;> omega
theorem bar_none {M : Mx} {lines m : Nat} (hl : lines ≤ 4) (hm : m ≤ lines) (hb : ∀ o t, o < 4 → t < 5 → (M o t).natAbs ≤ 20) (h : bar M lines m = none) : Ind M lines m → ¬ ∃ y z, Sol M lines m y z := by
  rintro ind ⟨y, z, hz, hy, hH⟩
  unfold bar at h
  cases e : barR M lines m with
  | none => exact bar_no hl hm hb m (Nat.le_refl _) e ind
  | some x =>
    rw [e] at h
    dsimp only at h
    obtain ⟨s1, -, s3, s4⟩ := barR_sp hl (by omega) hb m (Nat.le_refl _) hm x e
    have hH := (s1 y z).mpr hH
    by_cases g : (∀ o, o < lines → m ≤ o → x.1 o m = 0) ∧ ∀ i, i < m → 0 < (if x.2 < 0 then -1 else 1) * x.1 i m
    · rw [if_pos g] at h; cases h
    · refine g ⟨fun o ho hmo => ?_, fun i hi => ?_⟩
      · have := hH o ho
        unfold lnH at this
        rw [sZ_diag (d := x.2) (o := o) (fun c hc => s4 o c ho hc), if_neg (by omega)] at this
        exact (Int.mul_eq_zero.mp this.symm).resolve_right (by omega)
      · have := hH i (by omega)
        unfold lnH at this
        rw [sZ_diag (d := x.2) (o := i) (fun c hc => s4 i c (by omega) hc), if_pos hi] at this
        have hyi := hy i hi
        have ne : x.1 i m ≠ 0 := fun g2 => by
          rw [g2, Int.zero_mul] at this
          rcases Int.mul_eq_zero.mp this with g3 | g3
          · exact s3 g3
          · omega
        by_cases g2 : x.2 < 0
        · rw [if_pos g2]
          have h1 := Int.mul_neg_of_neg_of_pos g2 hyi
          rw [this] at h1
          have : ¬ 0 ≤ x.1 i m := fun g3 => absurd h1 (Int.not_lt.mpr (Int.mul_nonneg g3 (by omega)))
          omega
        · rw [if_neg g2]
          have h1 := Int.mul_pos (show 0 < x.2 by omega) hyi
          rw [this] at h1
          have : ¬ x.1 i m ≤ 0 := fun g3 => absurd h1 (Int.not_lt.mpr (Int.mul_nonpos_of_nonpos_of_nonneg g3 (by omega)))
          omega
