/-! Parts of a plan by numbers, pure -/
def wt (p : List Nat) : Nat → Nat
  | 0 => 1
  | c + 1 => wt p c * (p.getD c 0 + 1)
def tk (p : List Nat) (N c : Nat) : Nat := N / wt p c % (p.getD c 0 + 1)
theorem wt_pos (p : List Nat) : ∀ c, 0 < wt p c := by
  intro c
  induction c with
  | zero => exact Nat.one_pos
  | succ c ih => exact Nat.mul_pos ih (Nat.succ_pos _)
theorem wt_cons (a : Nat) (p : List Nat) (n : Nat) : wt (a :: p) (n + 1) = (a + 1) * wt p n := by
  induction n with
  | zero => show 1 * (a + 1) = (a + 1) * 1; omega
  | succ n ih =>
    show wt (a :: p) (n + 1) * ((a :: p).getD (n + 1) 0 + 1) = (a + 1) * (wt p n * (p.getD n 0 + 1))
    rw [ih, List.getD_cons_succ, Nat.mul_assoc]
def mxG : List (List Nat) := [[1, 1, 1, 1, 1, 1, 1, 1, 1, 1, 1, 1, 1], [1, 2, 3, 4, 5, 6, 7, 8, 9, 10, 11, 12, 13], [1, 2, 4, 6, 9, 12, 16, 20, 25, 30, 36, 42, 49], [1, 2, 4, 8, 12, 18, 27, 36, 48, 64, 80, 100, 125], [1, 2, 4, 8, 16, 24, 36, 54, 81, 108, 144, 192, 256], [1, 2, 4, 8, 16, 32, 48, 72, 108, 162, 243, 324, 432], [1, 2, 4, 8, 16, 32, 64, 96, 144, 216, 324, 486, 729], [1, 2, 4, 8, 16, 32, 64, 128, 192, 288, 432, 648, 972], [1, 2, 4, 8, 16, 32, 64, 128, 256, 384, 576, 864, 1296]]
def mxP (n t : Nat) : Nat := (mxG.getD n []).getD t 0
theorem mxP_0 : ∀ t, t < 13 → 1 ≤ mxP 0 t := by decide +kernel
theorem mxP_s : ∀ n, n < 8 → ∀ t, t < 13 → ∀ a, a < t + 1 → (a + 1) * mxP n (t - a) ≤ mxP (n + 1) t := by decide +kernel
theorem wt_mxP : ∀ n, n ≤ 8 → ∀ (p : List Nat) t, t < 13 → p.length = n → p.sum ≤ t → wt p n ≤ mxP n t := by
  intro n
  induction n with
  | zero => intro _ p t ht _ _; exact mxP_0 t ht
  | succ n ih =>
    intro hn p t ht hl hs
    match p, hl, hs with
    | a :: q, hl, hs =>
      rw [List.sum_cons] at hs
      rw [wt_cons]
      have h1 := ih (by omega) q (t - a) (by omega) (by simpa using hl) (by omega)
      exact Nat.le_trans (Nat.mul_le_mul_left (a + 1) h1) (mxP_s n (by omega) t ht a (by omega))
theorem mxP_le : ∀ n, n ≤ 8 → ∀ t, t ≤ 12 → mxP n t ≤ 1296 := by decide +kernel
theorem wt_le {n t : Nat} {p : List Nat} (hp : p ∈ PL n t) (hn : n ≤ 8) (ht : t ≤ 12) : wt p n ≤ 1296 := by
  have h := PL_mem hp
  exact Nat.le_trans (wt_mxP n hn p t (by omega) h.1 (by omega)) (mxP_le n hn t ht)
theorem wt_dvd (p : List Nat) {c n : Nat} (h : c ≤ n) : ∃ m, wt p n = wt p c * m := by
  induction n with
  | zero => exact ⟨1, by rw [show c = 0 from by omega]; rfl⟩
  | succ n ih =>
    by_cases e : c = n + 1
    · exact ⟨1, by rw [e, Nat.mul_one]⟩
    · obtain ⟨m, hm⟩ := ih (by omega)
      exact ⟨m * (p.getD n 0 + 1), by rw [← Nat.mul_assoc, ← hm]; rfl⟩
theorem wt_mono (p : List Nat) {c n : Nat} (h : c ≤ n) : wt p c ≤ wt p n := by
  obtain ⟨m, hm⟩ := wt_dvd p h
  have := wt_pos p n
  rw [hm] at this ⊢
  exact Nat.le_mul_of_pos_right _ (Nat.pos_of_mul_pos_left this)
theorem tk_le (p : List Nat) (N c : Nat) : tk p N c ≤ p.getD c 0 := by
  have : N / wt p c % (p.getD c 0 + 1) < p.getD c 0 + 1 := Nat.mod_lt _ (Nat.succ_pos _)
  unfold tk
  omega
theorem div_nc {q b : Nat} (h : q % b + 1 < b) : (q + 1) / b = q / b ∧ (q + 1) % b = q % b + 1 := by
  have hb : 0 < b := by omega
  have e : q + 1 = b * (q / b) + (q % b + 1) := by have := Nat.div_add_mod q b; omega
  constructor
  · rw [e, Nat.mul_add_div hb, Nat.div_eq_of_lt h, Nat.add_zero]
  · rw [e, Nat.mul_add_mod, Nat.mod_eq_of_lt h]
theorem tk_nc {p : List Nat} {N c : Nat} (h : tk p N c < p.getD c 0) : (N + wt p c) / wt p (c + 1) = N / wt p (c + 1) := by
  have hw := wt_pos p c
  show (N + wt p c) / (wt p c * (p.getD c 0 + 1)) = N / (wt p c * (p.getD c 0 + 1))
  rw [← Nat.div_div_eq_div_mul, ← Nat.div_div_eq_div_mul, Nat.add_div_right _ hw]
  exact (div_nc (by unfold tk at h; omega)).1
theorem tk_lt {p : List Nat} {N c n : Nat} (h : tk p N c < p.getD c 0) (hc : c < n) (hN : N < wt p n) : N + wt p c < wt p n := by
  obtain ⟨m, hm⟩ := wt_dvd p (show c + 1 ≤ n from hc)
  have hw := wt_pos p (c + 1)
  rw [hm] at hN ⊢
  have h1 : N / wt p (c + 1) < m := (Nat.div_lt_iff_lt_mul hw).mpr (by rw [Nat.mul_comm]; exact hN)
  rw [← tk_nc h] at h1
  rw [Nat.mul_comm]
  exact (Nat.div_lt_iff_lt_mul hw).mp h1
theorem tk_same {p : List Nat} {N c : Nat} (h : tk p N c < p.getD c 0) : tk p (N + wt p c) c = tk p N c + 1 := by
  unfold tk at h ⊢
  rw [Nat.add_div_right _ (wt_pos p c)]
  exact (div_nc (by omega)).2
theorem tk_other {p : List Nat} {N c c' : Nat} (h : tk p N c < p.getD c 0) (hne : c' ≠ c) : tk p (N + wt p c) c' = tk p N c' := by
  unfold tk
  by_cases e : c' < c
  · obtain ⟨m, hm⟩ := wt_dvd p (show c' + 1 ≤ c from e)
    rw [hm, show wt p (c' + 1) * m = wt p c' * ((p.getD c' 0 + 1) * m) from by rw [← Nat.mul_assoc]; rfl, Nat.add_mul_div_left _ _ (wt_pos p c'), Nat.add_mul_mod_self_left]
  · obtain ⟨m, hm⟩ := wt_dvd p (show c + 1 ≤ c' from by omega)
    rw [hm, ← Nat.div_div_eq_div_mul, ← Nat.div_div_eq_div_mul, tk_nc h]
theorem tk_full {p : List Nat} {N : Nat} : ∀ n, (∀ c, c < n → ¬ tk p N c < p.getD c 0) → N % wt p n = wt p n - 1 := by
  intro n
  induction n with
  | zero => intro _; show N % 1 = 1 - 1; omega
  | succ n ih =>
    intro h
    show N % (wt p n * (p.getD n 0 + 1)) = wt p n * (p.getD n 0 + 1) - 1
    have h1 := ih (fun c hc => h c (by omega))
    have h2 := h n (by omega)
    have h3 := tk_le p N n
    have h4 : N / wt p n % (p.getD n 0 + 1) = p.getD n 0 := by unfold tk at h2 h3; omega
    rw [Nat.mod_mul, h1, h4, Nat.mul_add]
    have := wt_pos p n
    omega
theorem tk_ex {p : List Nat} {N n : Nat} (hN : N + 1 < wt p n) : ∃ c, c < n ∧ tk p N c < p.getD c 0 := by
  by_cases e : ∃ c, c < n ∧ tk p N c < p.getD c 0
  · exact e
  · have := tk_full n (fun c hc g => e ⟨c, hc, g⟩)
    rw [Nat.mod_eq_of_lt (by omega)] at this
    omega
def sd (p : List Nat) (N : Nat) : Nat → Nat
  | 0 => 0
  | c + 1 => sd p N c + tk p N c
theorem sd_congr {p : List Nat} {N M : Nat} : ∀ n, (∀ c, c < n → tk p N c = tk p M c) → sd p N n = sd p M n := by
  intro n
  induction n with
  | zero => intro _; rfl
  | succ n ih => intro h; unfold sd; rw [ih (fun c hc => h c (by omega)), h n (by omega)]
theorem sd_add {p : List Nat} {N c : Nat} (h : tk p N c < p.getD c 0) : ∀ n, c < n → sd p (N + wt p c) n = sd p N n + 1 := by
  intro n
  induction n with
  | zero => intro hc; omega
  | succ n ih =>
    intro hc
    unfold sd
    by_cases e : c = n
    · subst e
      rw [tk_same h, sd_congr c (fun c' hc' => tk_other (c' := c') h (by omega))]
      omega
    · rw [ih (by omega), tk_other h (by omega)]
      omega
theorem sd_0 (p : List Nat) : ∀ n, sd p 0 n = 0 := by
  intro n
  induction n with
  | zero => rfl
  | succ n ih => unfold sd tk; rw [ih, Nat.zero_div, Nat.zero_mod]
theorem sd_full {p : List Nat} {N : Nat} : ∀ n, (∀ c, c < n → ¬ tk p N c < p.getD c 0) → sd p N n = ((List.range n).map (fun c => p.getD c 0)).sum := by
  intro n
  induction n with
  | zero => intro _; rfl
  | succ n ih =>
    intro h
    have h2 := h n (by omega)
    have h3 := tk_le p N n
    rw [List.range_succ, List.map_append, List.sum_append, ← ih (fun c hc => h c (by omega)), List.map_singleton, List.sum_singleton]
    show sd p N n + tk p N n = _
    omega
theorem sum_getD (p : List Nat) : ((List.range p.length).map (fun c => p.getD c 0)).sum = p.sum := by
  congr 1
  apply List.ext_getElem
  · simp
  · intro i h1 h2
    simp at h1
    simp [h1]
theorem sd_ex {p : List Nat} {N n : Nat} (hl : p.length = n) (h : sd p N n < p.sum) : ∃ c, c < n ∧ tk p N c < p.getD c 0 := by
  by_cases e : ∃ c, c < n ∧ tk p N c < p.getD c 0
  · exact e
  · have := sd_full n (fun c hc g => e ⟨c, hc, g⟩)
    subst hl
    rw [sum_getD] at this
    omega
/-- the first of some numbers with a property -/
def lsl (p : List Nat) (g : Nat → Int32) (N : Nat) (s : Int32) : Nat → Int32
  | 0 => s
  | c + 1 => if tk p N c < p.getD c 0 then ls2 (lsl p g N s c) (g (N + wt p c)) else lsl p g N s c
theorem lsl_congr {p : List Nat} {g g' : Nat → Int32} {N : Nat} {s : Int32} : ∀ n, (∀ c, c < n → tk p N c < p.getD c 0 → g (N + wt p c) = g' (N + wt p c)) → lsl p g N s n = lsl p g' N s n := by
  intro n
  induction n with
  | zero => intro _; rfl
  | succ n ih =>
    intro h
    unfold lsl
    rw [ih (fun c hc => h c (by omega))]
    split
    · next e => rw [h n (by omega) e]
    · rfl
def stN (f : Nat → Int32) (r n : Nat) (p : List Nat) (T : Int32) (N : Nat) : Int32 := mx (fun j => ab (T * sm (fun c => nI (tk p N c) * f (3 * c + j)) n - sm (fun c => nI (tk p N c)) n * f (32 + j))) r
def vlN (f : Nat → Int32) (r n : Nat) (p : List Nat) (T : Int32) (g : Nat → Int32) (N : Nat) : Int32 := gt (lsl p g N (if N + 1 = wt p n then 0 else 1000000000) n) (stN f r n p T N)
/-- the table after some steps from above -/
def tbl (V : (Nat → Int32) → Nat → Int32) (W : Nat) : Nat → Nat → Int32
  | 0, _ => 0
  | d + 1, N => if N + d + 1 = W then V (tbl V W d) N else tbl V W d N
theorem tbl_st (V : (Nat → Int32) → Nat → Int32) (W : Nat) {N : Nat} : ∀ d e, W ≤ N + d → d ≤ e → tbl V W e N = tbl V W d N := by
  intro d e hd he
  induction e with
  | zero => rw [show d = 0 from by omega]
  | succ e ih =>
    by_cases x : d = e + 1
    · rw [x]
    · rw [tbl, if_neg (by omega)]
      exact ih (by omega)
def Vgood (V : (Nat → Int32) → Nat → Int32) (W : Nat) : Prop := ∀ N g g', N < W → (∀ M, N < M → M < W → g M = g' M) → V g N = V g' N
theorem tbl_fix {V : (Nat → Int32) → Nat → Int32} {W : Nat} (hV : Vgood V W) {N : Nat} (hN : N < W) : tbl V W W N = V (tbl V W W) N := by
  have e : tbl V W W N = tbl V W (W - N - 1 + 1) N := tbl_st V W _ _ (by omega) (by omega)
  rw [e, tbl, if_pos (by omega)]
  exact hV N _ _ hN (fun M h1 h2 => (tbl_st V W (N := M) _ _ (by omega) (by omega)).symm)
theorem vlN_good (f : Nat → Int32) (r n : Nat) (p : List Nat) (T : Int32) : Vgood (vlN f r n p T) (wt p n) := by
  intro N g g' hN h
  unfold vlN
  rw [lsl_congr n (fun c hc e => h _ (by have := wt_pos p c; omega) (tk_lt e hc hN))]
