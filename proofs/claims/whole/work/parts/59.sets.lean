/-! Sets of columns, and their lines -/
def mL (S : Nat → Bool) (n : Nat) : List Nat := (List.range n).filter S
def cnS (S : Nat → Bool) (n : Nat) : Nat := (mL S n).length
def mb (S : Nat → Bool) (n i : Nat) : Nat := (mL S n).getD i 0
theorem mL_t {S : Nat → Bool} {n : Nat} (h : S n = true) : mL S (n + 1) = mL S n ++ [n] := by
  unfold mL
  rw [List.range_succ, List.filter_append]
  simp [h]
theorem mL_f {S : Nat → Bool} {n : Nat} (h : S n = false) : mL S (n + 1) = mL S n := by
  unfold mL
  rw [List.range_succ, List.filter_append]
  simp [h]
theorem cnS_t {S : Nat → Bool} {n : Nat} (h : S n = true) : cnS S (n + 1) = cnS S n + 1 := by unfold cnS; rw [mL_t h, List.length_append]; rfl
theorem cnS_f {S : Nat → Bool} {n : Nat} (h : S n = false) : cnS S (n + 1) = cnS S n := by unfold cnS; rw [mL_f h]
theorem cnS_le (S : Nat → Bool) (n : Nat) : cnS S n ≤ n := by
  have := List.length_filter_le S (List.range n)
  rw [List.length_range] at this
  exact this
theorem cnS_mono {S : Nat → Bool} {a b : Nat} (h : a ≤ b) : cnS S a ≤ cnS S b := by
  induction b with
  | zero => rw [show a = 0 from by omega]; exact Nat.le_refl _
  | succ b ih =>
    by_cases e : a = b + 1
    · rw [e]; exact Nat.le_refl _
    · have := ih (by omega)
      cases g : S b
      · rw [cnS_f g]; exact this
      · rw [cnS_t g]; omega
theorem mb_t {S : Nat → Bool} {n i : Nat} (h : S n = true) : mb S (n + 1) i = if i = cnS S n then n else mb S n i := by
  unfold mb
  rw [mL_t h, getD_app]
  rfl
theorem mb_f {S : Nat → Bool} {n i : Nat} (h : S n = false) : mb S (n + 1) i = mb S n i := by unfold mb; rw [mL_f h]
theorem mb_at {S : Nat → Bool} : ∀ {n c : Nat}, c < n → S c = true → mb S n (cnS S c) = c ∧ cnS S c < cnS S n := by
  intro n
  induction n with
  | zero => intro c hc; omega
  | succ n ih =>
    intro c hc hS
    by_cases e : c = n
    · subst e
      rw [mb_t hS, if_pos rfl, cnS_t hS]
      exact ⟨rfl, by omega⟩
    · obtain ⟨i1, i2⟩ := ih (show c < n by omega) hS
      cases g : S n
      · rw [mb_f g, cnS_f g]; exact ⟨i1, i2⟩
      · rw [mb_t g, if_neg (by omega), cnS_t g]; exact ⟨i1, by omega⟩
theorem mb_sp {S : Nat → Bool} : ∀ {n i : Nat}, i < cnS S n → mb S n i < n ∧ S (mb S n i) = true ∧ cnS S (mb S n i) = i := by
  intro n
  induction n with
  | zero => intro i hi; exact absurd hi (Nat.not_lt_zero _)
  | succ n ih =>
    intro i hi
    cases g : S n
    · rw [cnS_f g] at hi
      rw [mb_f g]
      obtain ⟨a, b, c⟩ := ih hi
      exact ⟨by omega, b, c⟩
    · rw [cnS_t g] at hi
      rw [mb_t g]
      by_cases e : i = cnS S n
      · rw [if_pos e]; exact ⟨by omega, g, e.symm⟩
      · rw [if_neg e]
        obtain ⟨a, b, c⟩ := ih (show i < cnS S n by omega)
        exact ⟨by omega, b, c⟩
theorem sZ_mb (S : Nat → Bool) (G : Nat → Int) : ∀ n, sZ (fun c => if S c then G c else 0) n = sZ (fun i => G (mb S n i)) (cnS S n) := by
  intro n
  induction n with
  | zero => rfl
  | succ n ih =>
    rw [sZ, ih]
    cases g : S n
    · rw [if_neg (by decide), cnS_f g, Int.add_zero]
      exact sZ_congr (fun i _ => by rw [mb_f g])
    · rw [if_pos rfl, cnS_t g, sZ, mb_t g, if_pos rfl]
      congr 1
      exact sZ_congr (fun i hi => by rw [mb_t g, if_neg (by omega)])
def aZ (f : Nat → Int32) (o c : Nat) : Int := if o < 3 then (f (3 * c + o)).toInt else 1
def bZ (b : Nat → Int) (o : Nat) : Int := if o < 3 then b o else 1
/-- the lines of a set and what they are to come to -/
def M3 (f : Nat → Int32) (b : Nat → Int) (S : Nat → Bool) (n : Nat) : Mx := fun o t => if t < cnS S n then aZ f o (mb S n t) else bZ b o
def HmS (f : Nat → Int32) (b : Nat → Int) (S : Nat → Bool) (n lines : Nat) (y : Nat → Int) (z : Int) : Prop := ∀ o, o < lines → sZ (fun c => if S c then aZ f o c * y c else 0) n = bZ b o * z
theorem Hm_S {f : Nat → Int32} {b : Nat → Int} {S : Nat → Bool} {n lines : Nat} {y : Nat → Int} {z : Int} : Hm (M3 f b S n) lines (cnS S n) (fun i => y (mb S n i)) z ↔ HmS f b S n lines y z := by
  have key : ∀ o, lnH (M3 f b S n) (cnS S n) o (fun i => y (mb S n i)) z ↔ sZ (fun c => if S c then aZ f o c * y c else 0) n = bZ b o * z := fun o => by
    unfold lnH
    rw [sZ_mb S (fun c => aZ f o c * y c) n]
    have e1 : sZ (fun c => M3 f b S n o c * y (mb S n c)) (cnS S n) = sZ (fun i => aZ f o (mb S n i) * y (mb S n i)) (cnS S n) := sZ_congr (fun i hi => by unfold M3; rw [if_pos hi])
    have e2 : M3 f b S n o (cnS S n) = bZ b o := by unfold M3; rw [if_neg (by omega)]
    rw [e1, e2]
  exact ⟨fun h o ho => (key o).mp (h o ho), fun h o ho => (key o).mpr (h o ho)⟩
theorem Hm_congr {M : Mx} {lines m : Nat} {y y' : Nat → Int} {z : Int} (h : ∀ i, i < m → y i = y' i) : Hm M lines m y z ↔ Hm M lines m y' z := by
  have key : ∀ o, lnH M m o y z ↔ lnH M m o y' z := fun o => by
    unfold lnH
    rw [sZ_congr (fun i hi => by rw [h i hi] : ∀ i, i < m → M o i * y i = M o i * y' i)]
  exact ⟨fun g o ho => (key o).mp (g o ho), fun g o ho => (key o).mpr (g o ho)⟩
def IndS (f : Nat → Int32) (S : Nat → Bool) (n lines : Nat) : Prop := ∀ y, HmS f (fun _ => 0) S n lines y 0 → ∀ c, c < n → S c = true → y c = 0
def SolS (f : Nat → Int32) (b : Nat → Int) (S : Nat → Bool) (n lines : Nat) (y : Nat → Int) (z : Int) : Prop := 0 < z ∧ (∀ c, c < n → S c = true → 0 < y c) ∧ HmS f b S n lines y z
/-- by columns, out of places -/
def colY (S : Nat → Bool) (n : Nat) (y : Nat → Int) : Nat → Int := fun c => if c < n ∧ S c = true then y (cnS S c) else 0
theorem colY_mb {S : Nat → Bool} {n i : Nat} {y : Nat → Int} (h : i < cnS S n) : colY S n y (mb S n i) = y i := by
  obtain ⟨a, b, c⟩ := mb_sp h
  unfold colY
  rw [if_pos ⟨a, b⟩, c]
theorem HmS_0 {f : Nat → Int32} {b b' : Nat → Int} {S : Nat → Bool} {n lines : Nat} {y : Nat → Int} : HmS f b S n lines y 0 ↔ HmS f b' S n lines y 0 := by
  unfold HmS
  simp only [Int.mul_zero]
theorem Ind_S {f : Nat → Int32} {b : Nat → Int} {S : Nat → Bool} {n lines : Nat} : Ind (M3 f b S n) lines (cnS S n) ↔ IndS f S n lines := by
  constructor
  · intro h y hy c hc hS
    have := h (fun i => y (mb S n i)) (Hm_S.mpr (HmS_0.mp hy)) (cnS S c) (mb_at hc hS).2
    rw [(mb_at hc hS).1] at this
    exact this
  · intro h y hy i hi
    have hy2 : Hm (M3 f b S n) lines (cnS S n) (fun i => colY S n y (mb S n i)) 0 := (Hm_congr (fun i hi => by rw [colY_mb hi])).mp hy
    obtain ⟨a, b', c⟩ := mb_sp hi
    have := h (colY S n y) (HmS_0.mp (Hm_S.mp hy2)) _ a b'
    rw [colY_mb hi] at this
    exact this
theorem Sol_S {f : Nat → Int32} {b : Nat → Int} {S : Nat → Bool} {n lines : Nat} {y : Nat → Int} {z : Int} (h : Sol (M3 f b S n) lines (cnS S n) y z) : SolS f b S n lines (colY S n y) z := by
  refine ⟨h.1, fun c hc hS => ?_, Hm_S.mp ((Hm_congr (fun i hi => by rw [colY_mb hi])).mp h.2.2)⟩
  unfold colY
  rw [if_pos ⟨hc, hS⟩]
  exact h.2.1 _ (mb_at hc hS).2
theorem Sol_S' {f : Nat → Int32} {b : Nat → Int} {S : Nat → Bool} {n lines : Nat} {y : Nat → Int} {z : Int} (h : SolS f b S n lines y z) : Sol (M3 f b S n) lines (cnS S n) (fun i => y (mb S n i)) z := by
  refine ⟨h.1, fun i hi => ?_, Hm_S.mpr h.2.2⟩
  obtain ⟨a, b', c⟩ := mb_sp hi
  exact h.2.1 _ a b'
/-- the solution of a set, by columns -/
def barS (f : Nat → Int32) (b : Nat → Int) (S : Nat → Bool) (n lines : Nat) : Option ((Nat → Int) × Int) := match bar (M3 f b S n) lines (cnS S n) with
  | none => none
  | some x => some (colY S n (byY x (cnS S n)), byZ x)
theorem M3_bd {f : Nat → Int32} {b : Nat → Int} {S : Nat → Bool} {n : Nat} (hF : FB f n) (hb : ∀ o, o < 3 → (b o).natAbs ≤ 20) : ∀ o t, o < 4 → t < 5 → (M3 f b S n o t).natAbs ≤ 20 := by
  intro o t ho ht
  unfold M3
  by_cases e : t < cnS S n
  · rw [if_pos e]
    unfold aZ
    by_cases g : o < 3
    · rw [if_pos g]
      have := hF (mb S n t) o (mb_sp e).1 g
      omega
    · rw [if_neg g]; decide
  · rw [if_neg e]
    unfold bZ
    by_cases g : o < 3
    · rw [if_pos g]; exact hb o g
    · rw [if_neg g]; decide
theorem barS_some {f : Nat → Int32} {b : Nat → Int} {S : Nat → Bool} {n lines : Nat} {w : (Nat → Int) × Int} (hF : FB f n) (hb : ∀ o, o < 3 → (b o).natAbs ≤ 20) (hl : lines ≤ 4) (hm : cnS S n ≤ lines) (h : barS f b S n lines = some w) : IndS f S n lines ∧ SolS f b S n lines w.1 w.2 ∧ (∀ c, ¬ (c < n ∧ S c = true) → w.1 c = 0) ∧ (cnS S n ≤ 3 → w.2 ≤ 48000 ∧ ∀ c, 0 ≤ w.1 c ∧ w.1 c ≤ 48000) ∧ w.2 ≤ 3840000 ∧ ∀ c, 0 ≤ w.1 c ∧ w.1 c ≤ 3840000 := by
  unfold barS at h
  cases e : bar (M3 f b S n) lines (cnS S n) with
  | none => rw [e] at h; cases h
  | some x =>
    rw [e] at h
    injection h with h
    obtain ⟨k1, k2, k3, k4, k5⟩ := bar_ok hl hm (M3_bd hF hb) e
    rw [← h]
    refine ⟨Ind_S.mp k1, Sol_S k2, fun c hc => ?_, fun h3 => ⟨(k3 h3).1, fun c => ?_⟩, k4, fun c => ?_⟩
    · dsimp only
      unfold colY
      rw [if_neg hc]
    · dsimp only
      unfold colY
      by_cases g : c < n ∧ S c = true
      · rw [if_pos g]
        have h1 := (mb_at g.1 g.2).2
        have h2 := k2.2.1 _ h1
        exact ⟨by omega, (k3 h3).2 _ h1⟩
      · rw [if_neg g]; omega
    · dsimp only
      unfold colY
      by_cases g : c < n ∧ S c = true
      · rw [if_pos g]
        have h1 := (mb_at g.1 g.2).2
        have h2 := k2.2.1 _ h1
        exact ⟨by omega, k5 _ h1⟩
      · rw [if_neg g]; omega
theorem barS_none {f : Nat → Int32} {b : Nat → Int} {S : Nat → Bool} {n lines : Nat} (hF : FB f n) (hb : ∀ o, o < 3 → (b o).natAbs ≤ 20) (hl : lines ≤ 4) (hm : cnS S n ≤ lines) (h : barS f b S n lines = none) : IndS f S n lines → ¬ ∃ y z, SolS f b S n lines y z := by
  rintro ind ⟨y, z, hs⟩
  unfold barS at h
  cases e : bar (M3 f b S n) lines (cnS S n) with
  | none => exact bar_none hl hm (M3_bd hF hb) e (Ind_S.mpr ind) ⟨_, _, Sol_S' hs⟩
  | some x => rw [e] at h; cases h
/-- two solutions of a set are the same fractions -/
theorem SolS_eq {f : Nat → Int32} {b : Nat → Int} {S : Nat → Bool} {n lines : Nat} {y y' : Nat → Int} {z z' : Int} (ind : IndS f S n lines) (h : HmS f b S n lines y z) (h' : HmS f b S n lines y' z') {c : Nat} (hc : c < n) (hS : S c = true) : z' * y c = z * y' c := by
  have := ind (fun c => z' * y c - z * y' c) (fun o ho => ?_) c hc hS
  · omega
  · show sZ (fun c => if S c = true then aZ f o c * (z' * y c - z * y' c) else 0) n = bZ (fun _ => 0) o * 0
    have e1 := h o ho
    have e2 := h' o ho
    have e3 : sZ (fun c => if S c then aZ f o c * (z' * y c - z * y' c) else 0) n + z * sZ (fun c => if S c then aZ f o c * y' c else 0) n = z' * sZ (fun c => if S c then aZ f o c * y c else 0) n := by
      rw [← sZ_mul, ← sZ_mul, ← sZ_add]
      refine sZ_congr (fun c _ => ?_)
      cases S c
      · simp
      · simp; grind
    rw [e1, e2] at e3
    rw [Int.mul_zero]
    have e4 : z * (bZ b o * z') = z' * (bZ b o * z) := by grind
    omega
