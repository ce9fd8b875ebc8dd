/-! The class's small plans -/
variable {h : Hp}
/-- how a small plan grows by a step -/
def xE (n m : Nat) : List Nat := (List.range' (m % 16 - 1) (n - (m % 16 - 1))).map (fun c => m * 16 + (c + 1))
def xV (n : Nat) : Nat → List Nat
  | 0 => [0]
  | t + 1 => (xV n t).flatMap (xE n)
def xL (n : Nat) : List Nat := xV n 0 ++ xV n 1 ++ xV n 2 ++ xV n 3
def xM (n i : Nat) : Nat := (xL n).getD i 0
def xS (n : Nat) : Nat → Nat
  | 0 => 0
  | s + 1 => xS n s + (xV n s).length
/-- how often a column is in a small plan -/
def xK : Nat → Nat → Nat → Nat
  | 0, _, _ => 0
  | k + 1, m, c => (if m % 16 = c + 1 then 1 else 0) + xK k (m / 16) c
def xT (m c : Nat) : Nat := xK 3 m c
def xP (n m : Nat) : List Nat := (List.range n).map (xT m)
/-- where the plans that grow from one begin -/
def xN (n : Nat) : Nat → Nat
  | 0 => 1
  | i + 1 => xN n i + (n - (xM n i % 16 - 1))
theorem xV_PL : ∀ n, n ≤ 8 → ∀ t, t ≤ 3 → (xV n t).map (xP n) = PL n t := by decide +kernel
theorem xS_N : ∀ n, n ≤ 8 → ∀ s, s ≤ 3 → xN n (xS n s) = xS n (s + 1) := by decide +kernel
theorem xS_le : ∀ n, n ≤ 8 → ∀ s, s ≤ 4 → xS n s ≤ 165 := by decide +kernel
theorem xM_b : ∀ n, n ≤ 8 → ∀ i, i < xS n 3 → xM n i < 256 ∧ xM n i % 16 - 1 ≤ n ∧ xN n i + (n - (xM n i % 16 - 1)) ≤ 165 := by decide +kernel
theorem xM_c : ∀ n, n ≤ 8 → ∀ i, i < 165 → xM n i < 4096 := by decide +kernel
theorem xM_e : ∀ n, n ≤ 8 → ∀ i, i < xS n 3 → ∀ k, k < n - (xM n i % 16 - 1) → xM n (xN n i + k) = xM n i * 16 + (xM n i % 16 - 1 + k + 1) := by decide +kernel
theorem xM_s : ∀ n, n ≤ 8 → ∀ s, s ≤ 3 → ∀ k, k < (xV n s).length → xM n (xS n s + k) = (xV n s).getD k 0 := by decide +kernel
theorem xd_and0 : ∀ a, a < 64 → ∀ b, b < 64 → nI (64 * a + b) &&& 15 = nI ((64 * a + b) % 16) := by decide +kernel
theorem xd_and (m : Nat) (hm : m < 4096) : nI m &&& 15 = nI (m % 16) := by
  have := xd_and0 (m / 64) (by omega) (m % 64) (by omega)
  rw [show 64 * (m / 64) + m % 64 = m by omega] at this
  exact this
theorem xd_shr0 : ∀ a, a < 64 → ∀ b, b < 64 → jshr (nI (64 * a + b)) 4 = nI ((64 * a + b) / 16) := by decide +kernel
theorem xd_shr (m : Nat) (hm : m < 4096) : jshr (nI m) 4 = nI (m / 16) := by
  have := xd_shr0 (m / 64) (by omega) (m % 64) (by omega)
  rw [show 64 * (m / 64) + m % 64 = m by omega] at this
  exact this
theorem xd_shl : ∀ m, m < 256 → ∀ c, c < 9 → jshl (nI m) 4 ||| nI c = nI (m * 16 + c) := by decide +kernel
theorem xK_t : ∀ m, m < 256 → ∀ c, c < 8 → ∀ d, d < 8 → xT (m * 16 + (c + 1)) d = xT m d + (if d = c then 1 else 0) := by decide +kernel
theorem xP_get {n m c : Nat} (hc : c < n) : (xP n m).getD c 0 = xT m c := by
  unfold xP
  rw [List.getD_eq_getElem?_getD, List.getElem?_map, List.getElem?_range hc]
  rfl
theorem sm_one {a b : Nat → Nat} {g : Nat → Int32} {c : Nat} : ∀ n, (∀ d, d < n → b d = a d + (if d = c then 1 else 0)) → sm (fun d => nI (b d) * g d) n = sm (fun d => nI (a d) * g d) n + (if c < n then g c else 0) := by
  intro n
  induction n with
  | zero => intro _; rfl
  | succ n ih =>
    intro hb
    have i1 := ih (fun d hd => hb d (by omega))
    have b1 := hb n (by omega)
    show sm (fun d => nI (b d) * g d) n + nI (b n) * g n = sm (fun d => nI (a d) * g d) n + nI (a n) * g n + _
    rw [i1, b1]
    by_cases e : n = c
    · rw [if_pos e, if_neg (by omega), if_pos (by omega), ← nI_1, ← e]
      grind
    · rw [if_neg e]
      by_cases e2 : c < n
      · rw [if_pos e2, if_pos (by omega), Nat.add_zero]
        grind
      · rw [if_neg e2, if_neg (by omega), Nat.add_zero]
        grind
theorem pS_one {f : Nat → Int32} {n m c k : Nat} (hn : n ≤ 8) (hm : m < 256) (hc : c < n) : pS f (xP n (m * 16 + (c + 1))) n k = pS f (xP n m) n k + f (3 * c + k) := by
  unfold pS
  rw [sm_one (a := fun d => (xP n m).getD d 0) (b := fun d => (xP n (m * 16 + (c + 1))).getD d 0) (g := fun d => f (3 * d + k)) (c := c) n (fun d hd => by
    show (xP n (m * 16 + (c + 1))).getD d 0 = (xP n m).getD d 0 + _
    rw [xP_get hd, xP_get hd, xK_t m hm c (by omega) d (by omega)]), if_pos hc]
theorem pG_one {f : Nat → Int32} {n m c : Nat} (hn : n ≤ 8) (hm : m < 256) (hc : c < n) : pG f (xP n (m * 16 + (c + 1))) n = pG f (xP n m) n + f (24 + c) := by
  unfold pG
  rw [sm_one (a := fun d => (xP n m).getD d 0) (b := fun d => (xP n (m * 16 + (c + 1))).getD d 0) (g := fun d => f (24 + d)) (c := c) n (fun d hd => by
    show (xP n (m * 16 + (c + 1))).getD d 0 = (xP n m).getD d 0 + _
    rw [xP_get hd, xP_get hd, xK_t m hm c (by omega) d (by omega)]), if_pos hc]
/-- the key of a small plan's sums -/
def ky (f : Nat → Int32) (n m : Nat) : Int32 := (pS f (xP n m) n 0 * 64 + pS f (xP n m) n 1) * 64 + pS f (xP n m) n 2
theorem ky_one {f : Nat → Int32} {n m c : Nat} (hn : n ≤ 8) (hm : m < 256) (hc : c < n) : ky f n (m * 16 + (c + 1)) = ky f n m + ((f (3 * c + 0) * 64 + f (3 * c + 1)) * 64 + f (3 * c + 2)) := by
  unfold ky
  rw [pS_one hn hm hc, pS_one hn hm hc, pS_one hn hm hc]
  grind
/-- the small plans that are listed -/
def EX (f : Nat → Int32) (n z : Nat) (h : Hp) : Prop := ∀ j, j < z → gI h 62 j = nI (xM n j) ∧ gI h 63 j = ky f n (xM n j) ∧ gI h 64 j = pG f (xP n (xM n j)) n
theorem EX_fx {f : Nat → Int32} {n z : Nat} {as js : List Nat} {h' : Hp} (a : EX f n z h) (x : Fx as js h h') (h1 : 62 ∉ as) (h2 : 63 ∉ as) (h3 : 64 ∉ as) : EX f n z h' := by
  unfold EX
  rw [fx_I x h1, fx_I x h2, fx_I x h3]
  exact a
theorem t_Ex_times_L {c : Nat} {Q : Int32 → Hp → Prop} (hc : c < 8) : ∀ k m a, m < 16 ^ k → k ≤ 3 → a + k ≤ 100 → Q (nI (a + xK k m c)) h → w_Ex_times_L10 Q (nI c) (k + 1) (nI a) (nI m) h := by
  intro k
  induction k with
  | zero =>
    intro m a hm _ _ hq
    have m0 : m = 0 := by
      have : m < 1 := hm
      omega
    subst m0
    unfold w_Ex_times_L10
    exact ⟨fun _ => hq, fun z => absurd (Int32.le_refl _) z⟩
  | succ k ih =>
    intro m a hm hk ha hq
    have m4 : m < 4096 := Nat.lt_of_lt_of_le hm (Nat.pow_le_pow_right (by decide) hk)
    have md : m / 16 < 16 ^ k := by
      rw [Nat.pow_succ] at hm
      omega
    have mr := Nat.mod_lt m (show 0 < 16 by decide)
    unfold w_Ex_times_L10
    rw [xd_and m m4, xd_shr m m4, nI_1, nI_1]
    unfold xK at hq
    refine ⟨fun z => ?_, fun z => ⟨fun y => ?_, fun y => ?_⟩⟩
    · have m0 : m = 0 := by
        by_cases g : m = 0
        · exact g
        · exact absurd z (nI_nle (by omega) (by omega))
      subst m0
      have x0 : ∀ k, xK k 0 c = 0 := by
        intro k
        induction k with
        | zero => rfl
        | succ k ih => unfold xK; rw [show 0 / 16 = 0 from rfl, ih]; rfl
      rw [show 0 / 16 = 0 from rfl, x0] at hq
      exact hq
    · have e := (nI_eq (by omega) (by omega)).mp y
      rw [if_pos e] at hq
      exact ih (m / 16) (a + 1) md (by omega) (by omega) (by rw [Nat.add_assoc]; exact hq)
    · have e : ¬ m % 16 = c + 1 := fun g => y (by rw [g])
      rw [if_neg e, Nat.zero_add] at hq
      exact ih (m / 16) a md (by omega) (by omega) hq
theorem t_Ex_times {f : Nat → Int32} {n z i c : Nat} {Q : Int32 → Hp → Prop} (m : XS h) (e : EX f n z h) (hn : n ≤ 8) (hz : z ≤ 165) (hi : i < z) (hc : c < 8) (hq : Q (nI (xT (xM n i) c)) h) : w_Ex_times 60 (nI i) (nI c) h Q := by
  unfold w_Ex_times
  rw [X_r60_2 m, X_n62 m, ix_nI (by omega), (e i hi).1]
  refine ⟨X_k60 m, X_k62 m, vp_in_nI (by omega) (by omega), ⟨3 + 1, t_Ex_times_L hc 3 _ 0 (xM_c n hn i (by omega)) (by omega) (by omega) ?_⟩⟩
  rw [Nat.zero_add]
  exact hq
