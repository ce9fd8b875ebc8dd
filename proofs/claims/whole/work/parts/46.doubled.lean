/-! Sums doubled level by level: the lists -/
def loZ (f : Nat → Int32) (w T j : Nat) : Int := -((-(f (32 + j)).toInt) / (T : Int)) - (w : Int)
def hiZ (f : Nat → Int32) (w T j : Nat) : Int := (f (32 + j)).toInt / (T : Int) + (w : Int)
/-- near the part of the need that the level stands for -/
def nrK (f : Nat → Int32) (w T k : Nat) : Bool := allB (fun j => decide (loZ f w T j ≤ Zk k j) && decide (Zk k j ≤ hiZ f w T j)) 3
def kpl (a b : Nat) : Nat := kNo (upk a 0 + upk b 0 - 60) (upk a 1 + upk b 1 - 60) (upk a 2 + upk b 2 - 60)
def dpJ (b : Nat → Bool) (pr : List Nat) (i : Nat) (acc : List Nat) : Nat → List Nat
  | 0 => acc
  | m + 1 => addk (b (kpl (pr.getD i 0) (pr.getD (i + m) 0))) (dpJ b pr i acc m) (kpl (pr.getD i 0) (pr.getD (i + m) 0))
def dpI (b : Nat → Bool) (pr : List Nat) : Nat → List Nat
  | 0 => []
  | i + 1 => dpJ b pr i (dpI b pr i) (pr.length - i)
def lev0 (f : Nat → Int32) (r : Nat) (b : Nat → Bool) : Nat → List Nat
  | 0 => addk (b (kNo 60 60 60)) [] (kNo 60 60 60)
  | c + 1 => addk (b (kst f r (kNo 60 60 60) c)) (lev0 f r b c) (kst f r (kNo 60 60 60) c)
def lev (f : Nat → Int32) (r n L w : Nat) : Nat → List Nat
  | 0 => lev0 f r (nrK f w (2 ^ L)) n
  | l + 1 => dpI (nrK f w (2 ^ (L - (l + 1)))) (lev f r n L w l) (lev f r n L w l).length
/-- rows that there are not hold nothing -/
def ZB (f : Nat → Int32) (r : Nat) : Prop := ∀ j, r ≤ j → j < 3 → f (32 + j) = 0 ∧ ∀ c, c < 8 → f (3 * c + j) = 0
/-- a key that stands on a level -/
def kL (f : Nat → Int32) (r w T k : Nat) : Prop := k < 1771561 ∧ nrK f w T k = true ∧ ∀ j, r ≤ j → j < 3 → Zk k j = 0
def dOK (f : Nat → Int32) (r w T : Nat) (acc : List Nat) : Prop := acc.Nodup ∧ ∀ k ∈ acc, kL f r w T k
theorem addk_nd {b : Bool} {acc : List Nat} {k : Nat} (h : acc.Nodup) : (addk b acc k).Nodup := by
  unfold addk
  by_cases e : b = true ∧ k ∉ acc
  · rw [if_pos e, List.nodup_append]
    refine ⟨h, by simp, fun a ha b hb => ?_⟩
    rw [List.mem_singleton] at hb
    rw [hb]
    exact fun g => e.2 (g ▸ ha)
  · rw [if_neg e]; exact h
theorem dOK_add {f : Nat → Int32} {r w T k : Nat} {acc : List Nat} (h : dOK f r w T acc) (hk : k < 1771561) (h0 : ∀ j, r ≤ j → j < 3 → Zk k j = 0) : dOK f r w T (addk (nrK f w T k) acc k) := by
  refine ⟨addk_nd h.1, fun x hx => ?_⟩
  rcases mem_addk.mp hx with hx | ⟨h1, h2⟩
  · exact h.2 x hx
  · rw [h2]; exact ⟨hk, h1, h0⟩
theorem nrK_at {f : Nat → Int32} {w T k j : Nat} (h : nrK f w T k = true) (hj : j < 3) : loZ f w T j ≤ Zk k j ∧ Zk k j ≤ hiZ f w T j := by
  have := allB_true.mp h j hj
  rw [Bool.and_eq_true, decide_eq_true_eq, decide_eq_true_eq] at this
  exact this
theorem T_cases {e : Nat} (h : e ≤ 4) : 2 ^ e = 1 ∨ 2 ^ e = 2 ∨ 2 ^ e = 4 ∨ 2 ^ e = 8 ∨ 2 ^ e = 16 := by
  match e, h with
  | 0, _ => decide
  | 1, _ => decide
  | 2, _ => decide
  | 3, _ => decide
  | 4, _ => decide
theorem lohi {f : Nat → Int32} {w e j : Nat} (hN : NB f) (hj : j < 3) (he : e ≤ 4) : -20 - (w : Int) ≤ loZ f w (2 ^ e) j ∧ hiZ f w (2 ^ e) j ≤ 20 + (w : Int) ∧ hiZ f w (2 ^ e) j - loZ f w (2 ^ e) j ≤ 2 * (w : Int) := by
  have h1 := hN j hj
  unfold loZ hiZ
  rcases T_cases he with g | g | g | g | g
  · rw [g]; omega
  · rw [g]; omega
  · rw [g]; omega
  · rw [g]; omega
  · rw [g]; omega
theorem near_iff {f : Nat → Int32} {w e j : Nat} (he : e ≤ 4) (s : Int) : (((2 ^ e : Nat) : Int) * s - (f (32 + j)).toInt).natAbs ≤ w * 2 ^ e ↔ loZ f w (2 ^ e) j ≤ s ∧ s ≤ hiZ f w (2 ^ e) j := by
  unfold loZ hiZ
  rcases T_cases he with g | g | g | g | g
  · rw [g]; omega
  · rw [g]; omega
  · rw [g]; omega
  · rw [g]; omega
  · rw [g]; omega
theorem Zk_inj {k k' : Nat} (h : ∀ j, j < 3 → Zk k j = Zk k' j) : k = k' := by
  have h0 := h 0 (by omega)
  have h1 := h 1 (by omega)
  have h2 := h 2 (by omega)
  unfold Zk at h0 h1 h2
  have e0 : upk k 0 = upk k' 0 := by omega
  have e1 : upk k 1 = upk k' 1 := by omega
  have e2 : upk k 2 = upk k' 2 := by omega
  rw [← kNo_of k, ← kNo_of k']
  show kNo (upk k 0) (upk k 1) (upk k 2) = kNo (upk k' 0) (upk k' 1) (upk k' 2)
  rw [e0, e1, e2]
theorem dOK_len {f : Nat → Int32} {r w e : Nat} {acc : List Nat} (hN : NB f) (hw : w ≤ 3) (he : e ≤ 4) (h : dOK f r w (2 ^ e) acc) : acc.length ≤ 343 := by
  have bd : ∀ k ∈ acc, ∀ j, j < 3 → 0 ≤ Zk k j - loZ f w (2 ^ e) j ∧ Zk k j - loZ f w (2 ^ e) j ≤ 6 := fun k hk j hj => by
    have h1 := nrK_at (h.2 k hk).2.1 hj
    have h2 := lohi (w := w) hN hj he
    omega
  refine nodup_map_le (N := 343) (F := fun k => (((Zk k 0 - loZ f w (2 ^ e) 0) * 7 + (Zk k 1 - loZ f w (2 ^ e) 1)) * 7 + (Zk k 2 - loZ f w (2 ^ e) 2)).toNat) ?_ (fun k hk => ?_)
  · rw [List.nodup_iff_pairwise_ne, List.pairwise_map]
    refine List.Pairwise.imp_of_mem ?_ h.1
    intro k k' hk hk' hne g
    have a0 := bd k hk 0 (by omega)
    have a1 := bd k hk 1 (by omega)
    have a2 := bd k hk 2 (by omega)
    have b0 := bd k' hk' 0 (by omega)
    have b1 := bd k' hk' 1 (by omega)
    have b2 := bd k' hk' 2 (by omega)
    refine hne (Zk_inj (fun j hj => ?_))
    match j, hj with
    | 0, _ => omega
    | 1, _ => omega
    | 2, _ => omega
  · have a0 := bd k hk 0 (by omega)
    have a1 := bd k hk 1 (by omega)
    have a2 := bd k hk 2 (by omega)
    omega
theorem kL_up {f : Nat → Int32} {r w e k j : Nat} (hN : NB f) (hw : w ≤ 3) (he : e ≤ 4) (h : kL f r w (2 ^ e) k) (hj : j < 3) : 37 ≤ upk k j ∧ upk k j ≤ 83 := by
  have h1 := nrK_at h.2.1 hj
  have h2 := lohi (w := w) hN hj he
  unfold Zk at h1
  omega
theorem upk_kpl {f : Nat → Int32} {r w e a b j : Nat} (hN : NB f) (hw : w ≤ 3) (he : e ≤ 4) (ha : kL f r w (2 ^ e) a) (hb : kL f r w (2 ^ e) b) (hj : j < 3) : upk (kpl a b) j = upk a j + upk b j - 60 ∧ 14 ≤ upk (kpl a b) j ∧ upk (kpl a b) j ≤ 106 := by
  have a1 := kL_up hN hw he ha (show 1 < 3 by omega)
  have a2 := kL_up hN hw he ha (show 2 < 3 by omega)
  have b1 := kL_up hN hw he hb (show 1 < 3 by omega)
  have b2 := kL_up hN hw he hb (show 2 < 3 by omega)
  have aj := kL_up hN hw he ha hj
  have bj := kL_up hN hw he hb hj
  obtain ⟨q0, q1, q2⟩ := upk_kNo (x := upk a 0 + upk b 0 - 60) (show upk a 1 + upk b 1 - 60 < 121 by omega) (show upk a 2 + upk b 2 - 60 < 121 by omega)
  have : upk (kpl a b) j = upk a j + upk b j - 60 := by
    unfold kpl
    match j, hj with
    | 0, _ => exact q0
    | 1, _ => exact q1
    | 2, _ => exact q2
  rw [this]
  omega
theorem kpl_ok {f : Nat → Int32} {r w e a b : Nat} (hN : NB f) (hw : w ≤ 3) (he : e ≤ 4) (ha : kL f r w (2 ^ e) a) (hb : kL f r w (2 ^ e) b) : kpl a b < 1771561 ∧ (∀ j, j < 3 → Zk (kpl a b) j = Zk a j + Zk b j) ∧ ∀ j, r ≤ j → j < 3 → Zk (kpl a b) j = 0 := by
  have a0 := kL_up hN hw he ha (show 0 < 3 by omega)
  have a1 := kL_up hN hw he ha (show 1 < 3 by omega)
  have a2 := kL_up hN hw he ha (show 2 < 3 by omega)
  have b0 := kL_up hN hw he hb (show 0 < 3 by omega)
  have b1 := kL_up hN hw he hb (show 1 < 3 by omega)
  have b2 := kL_up hN hw he hb (show 2 < 3 by omega)
  have hz : ∀ j, j < 3 → Zk (kpl a b) j = Zk a j + Zk b j := fun j hj => by
    have h1 := (upk_kpl hN hw he ha hb hj).1
    have aj := kL_up hN hw he ha hj
    have bj := kL_up hN hw he hb hj
    unfold Zk
    omega
  refine ⟨kNo_lt (by omega) (by omega) (by omega), hz, fun j hr hj => ?_⟩
  rw [hz j hj, ha.2.2 j hr hj, hb.2.2 j hr hj]
  rfl
theorem dOK_J {f : Nat → Int32} {r w e e' i : Nat} {pr acc : List Nat} (hN : NB f) (hw : w ≤ 3) (he : e ≤ 4) (hp : dOK f r w (2 ^ e) pr) (hi : i < pr.length) (h : dOK f r w (2 ^ e') acc) : ∀ m, m ≤ pr.length - i → dOK f r w (2 ^ e') (dpJ (nrK f w (2 ^ e')) pr i acc m) := by
  intro m
  induction m with
  | zero => intro _; exact h
  | succ m ih =>
    intro hm
    rw [dpJ]
    obtain ⟨k1, -, k3⟩ := kpl_ok hN hw he (hp.2 _ (getD_mem (d := 0) hi)) (hp.2 _ (getD_mem (d := 0) (show i + m < pr.length by omega)))
    exact dOK_add (ih (by omega)) k1 k3
theorem dOK_I {f : Nat → Int32} {r w e e' : Nat} {pr : List Nat} (hN : NB f) (hw : w ≤ 3) (he : e ≤ 4) (hp : dOK f r w (2 ^ e) pr) : ∀ i, i ≤ pr.length → dOK f r w (2 ^ e') (dpI (nrK f w (2 ^ e')) pr i) := by
  intro i
  induction i with
  | zero => intro _; exact ⟨List.nodup_nil, fun k hk => absurd hk List.not_mem_nil⟩
  | succ i ih =>
    intro hi
    rw [dpI]
    exact dOK_J hN hw he hp (by omega) (ih (by omega)) _ (Nat.le_refl _)
theorem Zk_0 (j : Nat) : Zk (kNo 60 60 60) j = 0 := by
  unfold Zk
  rw [upk_0]
  rfl
theorem upk_1 {f : Nat → Int32} {r n c j : Nat} (hF : FB f n) (hc : c < n) (hj : j < 3) : upk (kst f r (kNo 60 60 60) c) j = sX f r (kNo 60 60 60) c j ∧ 55 ≤ sX f r (kNo 60 60 60) c j ∧ sX f r (kNo 60 60 60) c j ≤ 65 := by
  have bd : ∀ j, j < 3 → 55 ≤ sX f r (kNo 60 60 60) c j ∧ sX f r (kNo 60 60 60) c j ≤ 65 := fun j hj => by
    have := hF c j hc hj
    unfold sX
    rw [upk_0]
    by_cases e : j < r
    · rw [if_pos e]; omega
    · rw [if_neg e]; omega
  have b1 := bd 1 (by omega)
  have b2 := bd 2 (by omega)
  obtain ⟨q0, q1, q2⟩ := upk_kNo (x := sX f r (kNo 60 60 60) c 0) (show sX f r (kNo 60 60 60) c 1 < 121 by omega) (show sX f r (kNo 60 60 60) c 2 < 121 by omega)
  refine ⟨?_, bd j hj⟩
  unfold kst
  match j, hj with
  | 0, _ => exact q0
  | 1, _ => exact q1
  | 2, _ => exact q2
theorem kst0_ok {f : Nat → Int32} {r n c : Nat} (hF : FB f n) (hZ : ZB f r) (hn : n ≤ 8) (hc : c < n) : kst f r (kNo 60 60 60) c < 1771561 ∧ (∀ j, j < 3 → Zk (kst f r (kNo 60 60 60) c) j = (f (3 * c + j)).toInt) ∧ ∀ j, r ≤ j → j < 3 → Zk (kst f r (kNo 60 60 60) c) j = 0 := by
  have hz : ∀ j, j < 3 → Zk (kst f r (kNo 60 60 60) c) j = (f (3 * c + j)).toInt := fun j hj => by
    have := hF c j hc hj
    unfold Zk
    rw [(upk_1 (r := r) hF hc hj).1]
    unfold sX
    rw [upk_0]
    by_cases e : j < r
    · rw [if_pos e]; omega
    · rw [if_neg e, (hZ j (by omega) hj).2 c (by omega)]
      rfl
  have b0 := (upk_1 (r := r) hF hc (show 0 < 3 by omega)).2
  have b1 := (upk_1 (r := r) hF hc (show 1 < 3 by omega)).2
  have b2 := (upk_1 (r := r) hF hc (show 2 < 3 by omega)).2
  refine ⟨kNo_lt (by omega) (by omega) (by omega), hz, fun j hr hj => ?_⟩
  rw [hz j hj, (hZ j hr hj).2 c (by omega)]
  rfl
theorem dOK_0 {f : Nat → Int32} {r n w T : Nat} (hF : FB f n) (hZ : ZB f r) (hn : n ≤ 8) : ∀ c, c ≤ n → dOK f r w T (lev0 f r (nrK f w T) c) := by
  intro c
  induction c with
  | zero =>
    intro _
    rw [lev0]
    exact dOK_add ⟨List.nodup_nil, fun k hk => absurd hk List.not_mem_nil⟩ (by decide) (fun j _ _ => Zk_0 j)
  | succ c ih =>
    intro hc
    rw [lev0]
    obtain ⟨k1, -, k3⟩ := kst0_ok (c := c) hF hZ hn (by omega)
    exact dOK_add (ih (by omega)) k1 k3
theorem dOK_lev {f : Nat → Int32} {r n L w : Nat} (hF : FB f n) (hN : NB f) (hZ : ZB f r) (hn : n ≤ 8) (hL : L ≤ 4) (hw : w ≤ 3) : ∀ l, l ≤ L → dOK f r w (2 ^ (L - l)) (lev f r n L w l) := by
  intro l
  induction l with
  | zero => intro _; rw [lev]; exact dOK_0 hF hZ hn n (Nat.le_refl _)
  | succ l ih =>
    intro hl
    rw [lev]
    exact dOK_I hN hw (e := L - l) (by omega) (ih (by omega)) _ (Nat.le_refl _)
theorem off_lev {f : Nat → Int32} {r n L w : Nat} (hF : FB f n) (hN : NB f) (hZ : ZB f r) (hn : n ≤ 8) (hL : L ≤ 4) (hw : w ≤ 3) : ∀ l, l ≤ L + 1 → off (lev f r n L w) l ≤ 343 * l := by
  intro l
  induction l with
  | zero => intro _; exact Nat.le_refl _
  | succ l ih =>
    intro hl
    have h1 := ih (by omega)
    have h2 := dOK_len hN hw (e := L - l) (by omega) (dOK_lev (r := r) (n := n) hF hN hZ hn hL hw l (by omega))
    rw [off]
    omega
