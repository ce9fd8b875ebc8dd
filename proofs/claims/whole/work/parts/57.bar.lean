/-! Lines solved without fractions -/
def sZ (F : Nat → Int) : Nat → Int
  | 0 => 0
  | n + 1 => sZ F n + F n
theorem sZ_congr {F G : Nat → Int} : ∀ {n : Nat}, (∀ i, i < n → F i = G i) → sZ F n = sZ G n := by
  intro n
  induction n with
  | zero => intro _; rfl
  | succ n ih =>
    intro h
    rw [sZ, sZ, ih (fun i hi => h i (by omega)), h n (by omega)]
theorem sZ_0 {F : Nat → Int} : ∀ {n : Nat}, (∀ i, i < n → F i = 0) → sZ F n = 0 := by
  intro n
  induction n with
  | zero => intro _; rfl
  | succ n ih =>
    intro h
    rw [sZ, ih (fun i hi => h i (by omega)), h n (by omega)]
    rfl
theorem sZ_add (F G : Nat → Int) (n : Nat) : sZ (fun i => F i + G i) n = sZ F n + sZ G n := by
  induction n with
  | zero => rfl
  | succ n ih => rw [sZ, sZ, sZ, ih]; omega
theorem sZ_mul (a : Int) (F : Nat → Int) (n : Nat) : sZ (fun i => a * F i) n = a * sZ F n := by
  induction n with
  | zero => rw [sZ, sZ, Int.mul_zero]
  | succ n ih => rw [sZ, sZ, ih, Int.mul_add]
/-- only one is not nothing -/
theorem sZ_one {F : Nat → Int} {k : Nat} : ∀ {n : Nat}, k < n → (∀ i, i < n → i ≠ k → F i = 0) → sZ F n = F k := by
  intro n
  induction n with
  | zero => intro h; omega
  | succ n ih =>
    intro hk h
    rw [sZ]
    by_cases e : k = n
    · rw [sZ_0 (fun i hi => h i (by omega) (by omega)), e]; omega
    · rw [ih (by omega) (fun i hi hn => h i (by omega) hn), h n (by omega) (by omega)]; omega
abbrev Mx := Nat → Nat → Int
def swp (M : Mx) (a b : Nat) : Mx := fun o t => if o = a then M b t else if o = b then M a t else M o t
def stpB (M : Mx) (d : Int) (i : Nat) : Mx := fun o t => if o = i then M o t else (M i i * M o t - M o i * M i t) / d
def fpv (M : Mx) (i lines : Nat) : Nat := fnd (fun o => decide (M o i ≠ 0)) (lines - i) i
def barR (M : Mx) (lines : Nat) : Nat → Option (Mx × Int)
  | 0 => some (M, 1)
  | i + 1 => match barR M lines i with
    | none => none
    | some x => if fpv x.1 i lines < lines then some (stpB (swp x.1 i (fpv x.1 i lines)) x.2 i, swp x.1 i (fpv x.1 i lines) i i) else none
/-- a line holds of a choice -/
def lnH (M : Mx) (m o : Nat) (y : Nat → Int) (z : Int) : Prop := sZ (fun c => M o c * y c) m = M o m * z
def Hm (M : Mx) (lines m : Nat) (y : Nat → Int) (z : Int) : Prop := ∀ o, o < lines → lnH M m o y z
theorem fnd_no {F : Nat → Bool} : ∀ (k c : Nat), (∀ i, c ≤ i → i < c + k → F i = false) → fnd F k c = c + k := by
  intro k
  induction k with
  | zero => intro c _; rfl
  | succ k ih =>
    intro c h
    rw [fnd, if_neg (by rw [h c (by omega) (by omega)]; decide), ih (c + 1) (fun i a b => h i (by omega) (by omega))]
    omega
theorem fpv_sp {M : Mx} {i lines : Nat} (hi : i < lines) (h : fpv M i lines < lines) : i ≤ fpv M i lines ∧ M (fpv M i lines) i ≠ 0 ∧ ∀ o, i ≤ o → o < fpv M i lines → M o i = 0 := by
  unfold fpv at h ⊢
  by_cases e : ∃ o, i ≤ o ∧ o < i + (lines - i) ∧ (fun o => decide (M o i ≠ 0)) o = true
  · obtain ⟨a, b, c, d⟩ := fnd_sp (F := fun o => decide (M o i ≠ 0)) (lines - i) i e
    refine ⟨a, of_decide_eq_true c, fun o h1 h2 => ?_⟩
    have := d o h1 h2
    rw [decide_eq_false_iff_not] at this
    omega
  · rw [fnd_no (lines - i) i (fun o h1 h2 => by
      cases g : (fun o => decide (M o i ≠ 0)) o
      · exact g
      · exact absurd ⟨o, h1, h2, g⟩ e)] at h
    omega
theorem fpv_no {M : Mx} {i lines : Nat} (h : ¬ fpv M i lines < lines) : ∀ o, i ≤ o → o < lines → M o i = 0 := by
  intro o h1 h2
  by_cases e : M o i = 0
  · exact e
  · unfold fpv at h
    obtain ⟨a, b, c, d⟩ := fnd_sp (F := fun o => decide (M o i ≠ 0)) (lines - i) i ⟨o, h1, by omega, decide_eq_true e⟩
    omega
theorem swp_H {M : Mx} {lines m a b : Nat} (ha : a < lines) (hb : b < lines) (y : Nat → Int) (z : Int) : Hm (swp M a b) lines m y z ↔ Hm M lines m y z := by
  have key : ∀ o, lnH (swp M a b) m o y z ↔ lnH M m (if o = a then b else if o = b then a else o) y z := fun o => by
    unfold lnH swp
    by_cases e : o = a
    · simp only [if_pos e]
    · by_cases g : o = b
      · simp only [if_neg e, if_pos g]
      · simp only [if_neg e, if_neg g]
  constructor
  · intro h o ho
    by_cases e : o = a
    · have := (key b).mp (h b hb)
      by_cases g : b = a
      · rw [if_pos g, g] at this; rw [e]; exact this
      · rw [if_neg g, if_pos rfl] at this; rw [e]; exact this
    · by_cases g : o = b
      · have := (key a).mp (h a ha)
        rw [if_pos rfl] at this; rw [g]; exact this
      · have := (key o).mp (h o ho)
        rw [if_neg e, if_neg g] at this; exact this
  · intro h o ho
    refine (key o).mpr (h _ ?_)
    split
    · exact hb
    · split
      · exact ha
      · exact ho
/-- a step keeps what lines say, where it divides without rest -/
theorem stp_H {M : Mx} {lines m i : Nat} {d : Int} (hi : i < lines) (hd : d ≠ 0) (hp : M i i ≠ 0) (hx : ∀ o t, o < lines → o ≠ i → t ≤ m → d * stpB M d i o t = M i i * M o t - M o i * M i t) (y : Nat → Int) (z : Int) : Hm (stpB M d i) lines m y z ↔ Hm M lines m y z := by
  have piv : lnH (stpB M d i) m i y z ↔ lnH M m i y z := by
    unfold lnH stpB
    simp only [if_pos]
  have key : ∀ o, o < lines → o ≠ i → d * (sZ (fun c => stpB M d i o c * y c) m - stpB M d i o m * z) = M i i * (sZ (fun c => M o c * y c) m - M o m * z) - M o i * (sZ (fun c => M i c * y c) m - M i m * z) := fun o ho hne => by
    have e1 : d * sZ (fun c => stpB M d i o c * y c) m = M i i * sZ (fun c => M o c * y c) m - M o i * sZ (fun c => M i c * y c) m := by
      rw [← sZ_mul, ← sZ_mul, ← sZ_mul]
      have : sZ (fun c => d * (stpB M d i o c * y c)) m + sZ (fun c => M o i * (M i c * y c)) m = sZ (fun c => M i i * (M o c * y c)) m := by
        rw [← sZ_add]
        refine sZ_congr (fun c hc => ?_)
        have := hx o c ho hne (by omega)
        rw [← Int.mul_assoc, this]
        grind
      omega
    have e2 := hx o m ho hne (Nat.le_refl _)
    rw [Int.mul_sub, e1, ← Int.mul_assoc, e2]
    grind
  constructor
  · intro h o ho
    by_cases e : o = i
    · rw [e]; exact piv.mp (h i hi)
    · have k := key o ho e
      have a := h o ho
      have b := piv.mp (h i hi)
      unfold lnH at a b ⊢
      rw [a, b, Int.sub_self, Int.sub_self, Int.mul_zero, Int.mul_zero, Int.sub_zero] at k
      have := (Int.mul_eq_zero.mp k.symm).resolve_left hp
      omega
  · intro h o ho
    by_cases e : o = i
    · rw [e]; exact piv.mpr (h i hi)
    · have k := key o ho e
      have a := h o ho
      have b := h i hi
      unfold lnH at a b ⊢
      rw [a, b, Int.sub_self, Int.sub_self, Int.mul_zero, Int.mul_zero, Int.sub_zero] at k
      have := (Int.mul_eq_zero.mp k).resolve_left hd
      omega
def d2 (a b c d : Int) : Int := a * d - b * c
def d3 (a b c d e f g h i : Int) : Int := a * (e * i - f * h) - b * (d * i - f * g) + c * (d * h - e * g)
def d4 (a b c d e f g h i j k l m n o p : Int) : Int := a * d3 f g h j k l n o p - b * d3 e g h i k l m o p + c * d3 e f h i j l m n p - d * d3 e f g i j k m n o
/-- what stands there behind so many steps -/
def EF (B : Mx) : Nat → Mx
  | 0 => B
  | 1 => fun o t => if o = 0 then B 0 t else d2 (B 0 0) (B 0 t) (B o 0) (B o t)
  | 2 => fun o t => if o = 0 then d2 (B 0 t) (B 0 1) (B 1 t) (B 1 1) else if o = 1 then d2 (B 0 0) (B 0 t) (B 1 0) (B 1 t) else d3 (B 0 0) (B 0 1) (B 0 t) (B 1 0) (B 1 1) (B 1 t) (B o 0) (B o 1) (B o t)
  | 3 => fun o t => if o = 0 then d3 (B 0 t) (B 0 1) (B 0 2) (B 1 t) (B 1 1) (B 1 2) (B 2 t) (B 2 1) (B 2 2) else if o = 1 then d3 (B 0 0) (B 0 t) (B 0 2) (B 1 0) (B 1 t) (B 1 2) (B 2 0) (B 2 t) (B 2 2) else if o = 2 then d3 (B 0 0) (B 0 1) (B 0 t) (B 1 0) (B 1 1) (B 1 t) (B 2 0) (B 2 1) (B 2 t) else d4 (B 0 0) (B 0 1) (B 0 2) (B 0 t) (B 1 0) (B 1 1) (B 1 2) (B 1 t) (B 2 0) (B 2 1) (B 2 2) (B 2 t) (B o 0) (B o 1) (B o 2) (B o t)
  | _ => fun o t => if o = 0 then d4 (B 0 t) (B 0 1) (B 0 2) (B 0 3) (B 1 t) (B 1 1) (B 1 2) (B 1 3) (B 2 t) (B 2 1) (B 2 2) (B 2 3) (B 3 t) (B 3 1) (B 3 2) (B 3 3) else if o = 1 then d4 (B 0 0) (B 0 t) (B 0 2) (B 0 3) (B 1 0) (B 1 t) (B 1 2) (B 1 3) (B 2 0) (B 2 t) (B 2 2) (B 2 3) (B 3 0) (B 3 t) (B 3 2) (B 3 3) else if o = 2 then d4 (B 0 0) (B 0 1) (B 0 t) (B 0 3) (B 1 0) (B 1 1) (B 1 t) (B 1 3) (B 2 0) (B 2 1) (B 2 t) (B 2 3) (B 3 0) (B 3 1) (B 3 t) (B 3 3) else d4 (B 0 0) (B 0 1) (B 0 2) (B 0 t) (B 1 0) (B 1 1) (B 1 2) (B 1 t) (B 2 0) (B 2 1) (B 2 2) (B 2 t) (B 3 0) (B 3 1) (B 3 2) (B 3 t)
def dF (B : Mx) : Nat → Int
  | 0 => 1
  | 1 => B 0 0
  | 2 => d2 (B 0 0) (B 0 1) (B 1 0) (B 1 1)
  | 3 => d3 (B 0 0) (B 0 1) (B 0 2) (B 1 0) (B 1 1) (B 1 2) (B 2 0) (B 2 1) (B 2 2)
  | _ => d4 (B 0 0) (B 0 1) (B 0 2) (B 0 3) (B 1 0) (B 1 1) (B 1 2) (B 1 3) (B 2 0) (B 2 1) (B 2 2) (B 2 3) (B 3 0) (B 3 1) (B 3 2) (B 3 3)
theorem EF_piv (B : Mx) {i : Nat} (hi : i < 4) : EF B i i i = dF B (i + 1) := by
  match i, hi with
  | 0, _ => rfl
  | 1, _ => unfold EF dF d2; simp
  | 2, _ => unfold EF dF; simp
  | 3, _ => unfold EF dF; simp
theorem EF_step (B : Mx) {i o : Nat} (t : Nat) (hi : i < 4) (ho : o < 4) (hne : o ≠ i) : dF B i * EF B (i + 1) o t = EF B i i i * EF B i o t - EF B i o i * EF B i i t := by
  match i, hi, o, ho, hne with
  | 0, _, 1, _, _ => simp only [EF, dF, d2]; simp; grind
  | 0, _, 2, _, _ => simp only [EF, dF, d2]; simp; grind
  | 0, _, 3, _, _ => simp only [EF, dF, d2]; simp; grind
  | 1, _, 0, _, _ => simp only [EF, dF, d2]; simp; grind
  | 1, _, 2, _, _ => simp only [EF, dF, d2, d3]; simp; grind
  | 1, _, 3, _, _ => simp only [EF, dF, d2, d3]; simp; grind
  | 2, _, 0, _, _ => simp only [EF, dF, d2, d3]; simp; grind
  | 2, _, 1, _, _ => simp only [EF, dF, d2, d3]; simp; grind
  | 2, _, 3, _, _ => simp only [EF, dF, d2, d3, d4]; simp; grind
  | 3, _, 0, _, _ => simp only [EF, dF, d3, d4]; simp; grind
  | 3, _, 1, _, _ => simp only [EF, dF, d3, d4]; simp; grind
  | 3, _, 2, _, _ => simp only [EF, dF, d3, d4]; simp; grind
  | 3, _, o + 3, ho, hne => exact absurd (show o + 3 = 3 by omega) hne
theorem EF_same (B : Mx) {i : Nat} (t : Nat) (hi : i < 4) : EF B (i + 1) i t = EF B i i t := by
  match i, hi with
  | 0, _ => rfl
  | 1, _ => simp only [EF, d2]; simp
  | 2, _ => simp only [EF]; simp
  | 3, _ => simp only [EF]; simp
theorem EF_swp (B : Mx) {i q o : Nat} (t : Nat) (hi : i < 4) (hq : i ≤ q) (ho : o < 4) (hq4 : q < 4) : EF (swp B i q) i o t = swp (EF B i) i q o t := by
  match i, hi, q, hq4, o, ho, hq with
  | 0, _, q, _, o, _, _ => rfl
  | 1, _, 1, _, 0, _, _ => simp [EF, swp]
  | 1, _, 1, _, 1, _, _ => simp [EF, swp]
  | 1, _, 1, _, 2, _, _ => simp [EF, swp]
  | 1, _, 1, _, 3, _, _ => simp [EF, swp]
  | 1, _, 2, _, 0, _, _ => simp [EF, swp]
  | 1, _, 2, _, 1, _, _ => simp [EF, swp]
  | 1, _, 2, _, 2, _, _ => simp [EF, swp]
  | 1, _, 2, _, 3, _, _ => simp [EF, swp]
  | 1, _, 3, _, 0, _, _ => simp [EF, swp]
  | 1, _, 3, _, 1, _, _ => simp [EF, swp]
  | 1, _, 3, _, 2, _, _ => simp [EF, swp]
  | 1, _, 3, _, 3, _, _ => simp [EF, swp]
  | 2, _, 2, _, 0, _, _ => simp [EF, swp]
  | 2, _, 2, _, 1, _, _ => simp [EF, swp]
  | 2, _, 2, _, 2, _, _ => simp [EF, swp]
  | 2, _, 2, _, 3, _, _ => simp [EF, swp]
  | 2, _, 3, _, 0, _, _ => simp [EF, swp]
  | 2, _, 3, _, 1, _, _ => simp [EF, swp]
  | 2, _, 3, _, 2, _, _ => simp [EF, swp]
  | 2, _, 3, _, 3, _, _ => simp [EF, swp]
  | 3, _, 3, _, 0, _, _ => simp [EF, swp]
  | 3, _, 3, _, 1, _, _ => simp [EF, swp]
  | 3, _, 3, _, 2, _, _ => simp [EF, swp]
  | 3, _, 3, _, 3, _, _ => simp [EF, swp]
theorem dF_swp (B : Mx) {i q : Nat} (hi : i < 4) (hq : i ≤ q) : dF (swp B i q) i = dF B i := by
  have h0 : ∀ o t, o < i → swp B i q o t = B o t := fun o t ho => by unfold swp; rw [if_neg (by omega), if_neg (by omega)]
  match i, hi with
  | 0, _ => rfl
  | 1, _ => simp only [dF]; rw [h0 0 0 (by omega)]
  | 2, _ => simp only [dF]; rw [h0 0 0 (by omega), h0 0 1 (by omega), h0 1 0 (by omega), h0 1 1 (by omega)]
  | 3, _ => simp only [dF]; rw [h0 0 0 (by omega), h0 0 1 (by omega), h0 0 2 (by omega), h0 1 0 (by omega), h0 1 1 (by omega), h0 1 2 (by omega), h0 2 0 (by omega), h0 2 1 (by omega), h0 2 2 (by omega)]
