/-! The layers of a strip, as lists of keys -/
def iS (f : Nat → Int32) (j : Nat) (p : List Nat) : Nat → Int
  | 0 => 0
  | n + 1 => iS f j p n + (p.getD n 0 : Int) * (f (3 * n + j)).toInt
def sD (p : List Nat) : Nat → Nat
  | 0 => 0
  | n + 1 => sD p n + p.getD n 0
theorem sD_cons (a : Nat) (p : List Nat) (n : Nat) : sD (a :: p) (n + 1) = a + sD p n := by
  induction n with
  | zero =>
    show 0 + a = a + 0
    omega
  | succ n ih =>
    rw [sD, ih, List.getD_cons_succ, sD]
    omega
theorem sD_len (p : List Nat) : sD p p.length = p.sum := by
  induction p with
  | nil => rfl
  | cons a p ih => rw [List.length_cons, sD_cons, ih, List.sum_cons]
/-- the numbers of the columns are within -5 .. 5 -/
def FB (f : Nat → Int32) (n : Nat) : Prop := ∀ c j, c < n → j < 3 → -5 ≤ (f (3 * c + j)).toInt ∧ (f (3 * c + j)).toInt ≤ 5
theorem mul_bd (a : Nat) {v : Int} (h1 : -5 ≤ v) (h2 : v ≤ 5) : -(5 * (a : Int)) ≤ (a : Int) * v ∧ (a : Int) * v ≤ 5 * (a : Int) := by
  have e1 := Int.mul_le_mul_of_nonneg_left h1 (Int.natCast_nonneg a)
  have e2 := Int.mul_le_mul_of_nonneg_left h2 (Int.natCast_nonneg a)
  omega
theorem iS_le {f : Nat → Int32} {n j : Nat} (p : List Nat) (hF : FB f n) (hj : j < 3) : ∀ m, m ≤ n → -(5 * (sD p m : Int)) ≤ iS f j p m ∧ iS f j p m ≤ 5 * (sD p m : Int) := by
  intro m
  induction m with
  | zero => intro _; exact ⟨Int.le_refl 0, Int.le_refl 0⟩
  | succ m ih =>
    intro hm
    have h1 := ih (by omega)
    have h2 := hF m j (by omega) hj
    have h3 := mul_bd (p.getD m 0) h2.1 h2.2
    rw [iS, sD, Int.natCast_add]
    omega
theorem stp_at {p : List Nat} {c : Nat} (hc : c < p.length) (m : Nat) : (stp p c).getD m 0 = if m = c then p.getD c 0 + 1 else p.getD m 0 := by
  unfold stp
  rw [List.getD_eq_getElem?_getD, List.getElem?_set]
  by_cases e : c = m
  · subst e
    rw [if_pos rfl, if_pos hc, if_pos rfl]
    rfl
  · rw [if_neg e, if_neg (fun g => e g.symm), List.getD_eq_getElem?_getD]
theorem iS_stp {f : Nat → Int32} {j c : Nat} {p : List Nat} (hc : c < p.length) : ∀ m, iS f j (stp p c) m = iS f j p m + if c < m then (f (3 * c + j)).toInt else 0 := by
  intro m
  induction m with
  | zero => rw [if_neg (Nat.not_lt_zero _)]; rfl
  | succ m ih =>
    rw [iS, ih, iS, stp_at hc]
    by_cases e : m = c
    · subst e
      rw [if_pos rfl, if_neg (Nat.lt_irrefl _), if_pos (by omega), Int.natCast_add, Int.add_mul]
      omega
    · rw [if_neg e]
      by_cases g : c < m
      · rw [if_pos g, if_pos (by omega)]; omega
      · rw [if_neg g, if_neg (by omega)]; omega
/-- a plan's sum with its offset -/
def pY (f : Nat → Int32) (r n : Nat) (p : List Nat) (j : Nat) : Nat := if j < r then (60 + iS f j p n).toNat else 60
def kP (f : Nat → Int32) (r n : Nat) (p : List Nat) : Nat := kNo (pY f r n p 0) (pY f r n p 1) (pY f r n p 2)
theorem pY_bd {f : Nat → Int32} {r n j t : Nat} {p : List Nat} (hF : FB f n) (hj : j < 3) (hp : p ∈ PL n t) (ht : t ≤ 12) : 60 - 5 * t ≤ pY f r n p j ∧ pY f r n p j ≤ 60 + 5 * t := by
  have h1 := iS_le p hF hj n (Nat.le_refl _)
  have h2 := PL_mem hp
  have h3 := sD_len p
  rw [h2.1, h2.2] at h3
  rw [h3] at h1
  unfold pY
  by_cases e : j < r
  · rw [if_pos e]; omega
  · rw [if_neg e]; omega
theorem upk_kNo {x y z : Nat} (hy : y < 121) (hz : z < 121) : upk (kNo x y z) 0 = x ∧ upk (kNo x y z) 1 = y ∧ upk (kNo x y z) 2 = z := by
  obtain ⟨a, b, c⟩ := kNo_up (x := x) hy hz
  exact ⟨c, b, a⟩
theorem upk_kP {f : Nat → Int32} {r n j t : Nat} {p : List Nat} (hF : FB f n) (hj : j < 3) (hp : p ∈ PL n t) (ht : t ≤ 12) : upk (kP f r n p) j = pY f r n p j := by
  have b1 := pY_bd (r := r) hF (show 1 < 3 by omega) hp ht
  have b2 := pY_bd (r := r) hF (show 2 < 3 by omega) hp ht
  obtain ⟨a, b, c⟩ := upk_kNo (x := pY f r n p 0) (show pY f r n p 1 < 121 by omega) (show pY f r n p 2 < 121 by omega)
  unfold kP
  match j, hj with
  | 0, _ => exact a
  | 1, _ => exact b
  | 2, _ => exact c
theorem kP_lt {f : Nat → Int32} {r n t : Nat} {p : List Nat} (hF : FB f n) (hp : p ∈ PL n t) (ht : t ≤ 12) : kP f r n p < 1771561 := by
  have b0 := pY_bd (r := r) hF (show 0 < 3 by omega) hp ht
  have b1 := pY_bd (r := r) hF (show 1 < 3 by omega) hp ht
  have b2 := pY_bd (r := r) hF (show 2 < 3 by omega) hp ht
  exact kNo_lt (by omega) (by omega) (by omega)
/-- the sums behind a step, with their offset -/
def sX (f : Nat → Int32) (r k c j : Nat) : Nat := if j < r then ((upk k j : Int) + (f (3 * c + j)).toInt).toNat else upk k j
def kst (f : Nat → Int32) (r k c : Nat) : Nat := kNo (sX f r k c 0) (sX f r k c 1) (sX f r k c 2)
theorem sX_kP {f : Nat → Int32} {r n j t c : Nat} {p : List Nat} (hF : FB f n) (hj : j < 3) (hp : p ∈ PL n t) (ht : t < 12) (hc : c < n) : sX f r (kP f r n p) c j = pY f r n (stp p c) j := by
  have h0 := PL_mem hp
  have h1 := iS_le p hF hj n (Nat.le_refl _)
  have h3 := sD_len p
  rw [h0.1, h0.2] at h3
  rw [h3] at h1
  have h4 := hF c j hc hj
  unfold sX
  rw [upk_kP hF hj hp (by omega)]
  unfold pY
  rw [iS_stp (by omega), if_pos hc]
  by_cases e : j < r
  · rw [if_pos e, if_pos e, if_pos e]
    omega
  · rw [if_neg e, if_neg e, if_neg e]
theorem kst_kP {f : Nat → Int32} {r n t c : Nat} {p : List Nat} (hF : FB f n) (hp : p ∈ PL n t) (ht : t < 12) (hc : c < n) : kst f r (kP f r n p) c = kP f r n (stp p c) := by
  unfold kst
  rw [sX_kP hF (by omega) hp ht hc, sX_kP hF (by omega) hp ht hc, sX_kP hF (by omega) hp ht hc]
  rfl
theorem adR_kP {f : Nat → Int32} {r n j t c : Nat} {p : List Nat} (hF : FB f n) (hj : j < 3) (hp : p ∈ PL n t) (ht : t < 12) (hc : c < n) : adR (fun j => of60 (upk (kP f r n p) j)) f c r j = of60 (sX f r (kP f r n p) c j) := by
  have b := pY_bd (r := r) hF hj hp (by omega)
  have h4 := hF c j hc hj
  unfold adR sX
  dsimp only
  rw [upk_kP hF hj hp (by omega)]
  by_cases e : j < r
  · rw [if_pos e, if_pos e, of60_add (by omega) h4.1 h4.2 (by omega)]
  · rw [if_neg e, if_neg e]
/-- within the strip, behind l of t steps -/
def okS (f : Nat → Int32) (r t w l k : Nat) : Bool := decide (nSt f r (fun j => of60 (upk k j)) (nI l) (nI t) ≤ nI w * nI t)
def addk (b : Bool) (acc : List Nat) (k : Nat) : List Nat := if b = true ∧ k ∉ acc then acc ++ [k] else acc
def nxC (f : Nat → Int32) (r t w l k : Nat) (acc : List Nat) : Nat → List Nat
  | 0 => acc
  | c + 1 => addk (okS f r t w l (kst f r k c)) (nxC f r t w l k acc c) (kst f r k c)
def nxI (f : Nat → Int32) (r n t w l : Nat) (pr : List Nat) : Nat → List Nat
  | 0 => []
  | i + 1 => nxC f r t w l (pr.getD i 0) (nxI f r n t w l pr i) n
def lay (f : Nat → Int32) (r n t w : Nat) : Nat → List Nat
  | 0 => [kNo 60 60 60]
  | l + 1 => nxI f r n t w (l + 1) (lay f r n t w l) (lay f r n t w l).length
/-- keys of plans of so many steps, none twice -/
def kOK (f : Nat → Int32) (r n l : Nat) (acc : List Nat) : Prop := acc.Nodup ∧ ∀ k ∈ acc, ∃ p, p ∈ PL n l ∧ k = kP f r n p
theorem kOK_len {f : Nat → Int32} {r n l : Nat} {acc : List Nat} (h : kOK f r n l acc) : acc.length ≤ PN n l := by
  have := nodup_sub acc ((PL n l).map (kP f r n)) h.1 (fun k hk => by
    obtain ⟨p, hp, e⟩ := h.2 k hk
    exact List.mem_map.mpr ⟨p, hp, e.symm⟩)
  rwa [List.length_map, PL_len] at this
theorem kOK_nil (f : Nat → Int32) (r n l : Nat) : kOK f r n l [] := ⟨List.nodup_nil, fun k hk => absurd hk List.not_mem_nil⟩
theorem kOK_add {f : Nat → Int32} {r n l k : Nat} {b : Bool} {acc : List Nat} (h : kOK f r n l acc) (hk : ∃ p, p ∈ PL n l ∧ k = kP f r n p) : kOK f r n l (addk b acc k) := by
  unfold addk
  by_cases e : b = true ∧ k ∉ acc
  · rw [if_pos e]
    refine ⟨?_, fun x hx => ?_⟩
    · rw [List.nodup_append]
      refine ⟨h.1, by simp, fun a ha b hb => ?_⟩
      rw [List.mem_singleton] at hb
      rw [hb]
      exact fun g => e.2 (g ▸ ha)
    · rcases List.mem_append.mp hx with hx | hx
      · exact h.2 x hx
      · rw [List.mem_singleton] at hx
        rw [hx]
        exact hk
  · rw [if_neg e]; exact h
theorem kOK_nxC {f : Nat → Int32} {r n l t w : Nat} {acc p : List Nat} (hF : FB f n) (hl : l < 12) (hp : p ∈ PL n l) (h : kOK f r n (l + 1) acc) : ∀ c, c ≤ n → kOK f r n (l + 1) (nxC f r t w (l + 1) (kP f r n p) acc c) := by
  intro c
  induction c with
  | zero => intro _; exact h
  | succ c ih =>
    intro hc
    rw [nxC]
    exact kOK_add (ih (by omega)) ⟨stp p c, stp_PL hp (by omega), kst_kP hF hp hl (by omega)⟩
theorem getD_mem {α : Type} {l : List α} {i : Nat} {d : α} (h : i < l.length) : l.getD i d ∈ l := by
  rw [List.getD_eq_getElem?_getD, List.getElem?_eq_getElem h]
  exact List.getElem_mem h
theorem kOK_nxI {f : Nat → Int32} {r n l t w : Nat} {pr : List Nat} (hF : FB f n) (hl : l < 12) (h : kOK f r n l pr) : ∀ i, i ≤ pr.length → kOK f r n (l + 1) (nxI f r n t w (l + 1) pr i) := by
  intro i
  induction i with
  | zero => intro _; exact kOK_nil _ _ _ _
  | succ i ih =>
    intro hi
    obtain ⟨p, hp, e⟩ := h.2 _ (getD_mem (d := 0) (show i < pr.length by omega))
    rw [nxI, e]
    exact kOK_nxC hF hl hp (ih (by omega)) n (Nat.le_refl _)
theorem PL_0 (n : Nat) : List.replicate n 0 ∈ PL n 0 := PL_all n _ _ List.length_replicate (by simp)
theorem iS_0 (f : Nat → Int32) (j n : Nat) : ∀ m, iS f j (List.replicate n 0) m = 0 := by
  intro m
  induction m with
  | zero => rfl
  | succ m ih =>
    rw [iS, ih, show (List.replicate n 0).getD m 0 = 0 from by
      rw [List.getD_eq_getElem?_getD, List.getElem?_replicate]
      split <;> rfl]
    omega
theorem kP_0 (f : Nat → Int32) (r n : Nat) : kP f r n (List.replicate n 0) = kNo 60 60 60 := by
  have : ∀ j, pY f r n (List.replicate n 0) j = 60 := fun j => by
    unfold pY
    rw [iS_0]
    split <;> rfl
  unfold kP
  rw [this, this, this]
theorem kOK_lay {f : Nat → Int32} {r n t w : Nat} (hF : FB f n) : ∀ l, l ≤ 12 → kOK f r n l (lay f r n t w l) := by
  intro l
  induction l with
  | zero =>
    intro _
    exact ⟨by rw [lay]; simp, fun k hk => ⟨_, PL_0 n, by rw [lay, List.mem_singleton] at hk; rw [hk, kP_0]⟩⟩
  | succ l ih =>
    intro hl
    rw [lay]
    exact kOK_nxI hF (by omega) (ih (by omega)) _ (Nat.le_refl _)
def off (ly : Nat → List Nat) : Nat → Nat
  | 0 => 0
  | l + 1 => off ly l + (ly l).length
theorem off_mono (ly : Nat → List Nat) {a b : Nat} (h : a ≤ b) : off ly a ≤ off ly b := by
  induction b with
  | zero => rw [show a = 0 from by omega]; exact Nat.le_refl _
  | succ b ih =>
    by_cases e : a = b + 1
    · rw [e]; exact Nat.le_refl _
    · have := ih (by omega)
      rw [off]
      omega
theorem off_le {f : Nat → Int32} {r n t w : Nat} (hF : FB f n) : ∀ l, l ≤ 13 → off (lay f r n t w) l ≤ PNs n l := by
  intro l
  induction l with
  | zero => intro _; exact Nat.le_refl _
  | succ l ih =>
    intro hl
    have h1 := ih (by omega)
    have h2 := kOK_len (kOK_lay (r := r) (t := t) (w := w) hF l (by omega))
    rw [off, PNs]
    omega
