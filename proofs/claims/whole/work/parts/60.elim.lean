/-! Rows that are added to one another, as the reference does -/
def elR (M : Mx) (rows : Nat) : Nat → Option Mx
  | 0 => some M
  | i + 1 => match elR M rows i with
    | none => none
    | some x => if fpv x i rows < rows then some (stpB (swp x i (fpv x i rows)) 1 i) else none
def KB : Nat → Nat
  | 0 => 20
  | 1 => 800
  | 2 => 1280000
  | _ => 3276800000000
theorem KB_pos (i : Nat) : 0 < KB i := by
  unfold KB
  split <;> omega
def EI (M : Mx) (rows i : Nat) (x : Mx) : Prop := (∀ y z, Hm x rows 4 y z ↔ Hm M rows 4 y z) ∧ (∀ o c, o < rows → c < i → o ≠ c → x o c = 0) ∧ (∀ c, c < i → x c c ≠ 0) ∧ ∀ o t, o < rows → t < 5 → (x o t).natAbs ≤ KB i
theorem KB_step {i : Nat} (hi : i < 3) : KB i * KB i + KB i * KB i ≤ KB (i + 1) := by
  match i, hi with
  | 0, _ => decide
  | 1, _ => decide
  | 2, _ => decide
theorem elR_sp {M : Mx} {rows : Nat} (hr : rows ≤ 3) (hb : ∀ o t, o < rows → t < 5 → (M o t).natAbs ≤ 20) : ∀ i, i ≤ rows → ∀ x, elR M rows i = some x → EI M rows i x := by
  intro i
  induction i with
  | zero =>
    intro _ x hx
    rw [elR] at hx
    injection hx with hx
    rw [← hx]
    exact ⟨fun y z => Iff.rfl, fun o c _ hc => absurd hc (Nat.not_lt_zero _), fun c hc => absurd hc (Nat.not_lt_zero _), hb⟩
  | succ i ih =>
    intro hi x hx
    rw [elR] at hx
    cases e : elR M rows i with
    | none => rw [e] at hx; cases hx
    | some w =>
      rw [e] at hx
      dsimp only at hx
      obtain ⟨s1, s2, s3, s4⟩ := ih (by omega) w e
      by_cases g : fpv w i rows < rows
      · rw [if_pos g] at hx
        injection hx with hx
        obtain ⟨q1, q2, q3⟩ := fpv_sp (by omega) g
        generalize fpv w i rows = q at g q1 q2 q3 hx
        have hp : swp w i q i i ≠ 0 := by
          unfold swp
          rw [if_pos rfl]
          exact q2
        have sw : ∀ o c, o < rows → c < i → o ≠ c → swp w i q o c = 0 := fun o c ho hc hne => by
          unfold swp
          by_cases e1 : o = i
          · rw [if_pos e1]; exact s2 q c g hc (by omega)
          · rw [if_neg e1]
            by_cases e2 : o = q
            · rw [if_pos e2]; exact s2 i c (by omega) hc (by omega)
            · rw [if_neg e2]; exact s2 o c ho hc hne
        have sd : ∀ c, c < i → swp w i q c c = w c c := fun c hc => by
          unfold swp
          rw [if_neg (by omega), if_neg (by omega)]
        have sb : ∀ o t, o < rows → t < 5 → (swp w i q o t).natAbs ≤ KB i := fun o t ho ht => by
          unfold swp
          split
          · exact s4 q t g ht
          · split
            · exact s4 i t (by omega) ht
            · exact s4 o t ho ht
        have st : ∀ o t, o ≠ i → stpB (swp w i q) 1 i o t = swp w i q i i * swp w i q o t - swp w i q o i * swp w i q i t := fun o t hne => by
          unfold stpB
          rw [if_neg hne, Int.ediv_one]
        have si : ∀ t, stpB (swp w i q) 1 i i t = swp w i q i t := fun t => by
          unfold stpB
          rw [if_pos rfl]
        rw [← hx]
        refine ⟨fun y z => ?_, fun o c ho hc hne => ?_, fun c hc => ?_, fun o t ho ht => ?_⟩
        · rw [stp_H (by omega) (by decide) hp (fun o t ho hne ht => by rw [Int.one_mul, st o t hne]), swp_H (by omega) g, s1]
        · by_cases e1 : o = i
          · rw [e1, si]; exact sw i c (by omega) (by omega) (by omega)
          · rw [st o c e1]
            by_cases e2 : c = i
            · rw [e2, Int.mul_comm, Int.sub_self]
            · rw [sw o c ho (by omega) hne, sw i c (by omega) (by omega) (by omega), Int.mul_zero, Int.mul_zero]; rfl
        · by_cases e2 : c = i
          · rw [e2, si]; exact hp
          · rw [st c c e2, sw i c (by omega) (by omega) (by omega), Int.mul_zero, Int.sub_zero, sd c (by omega)]
            intro g2
            rcases Int.mul_eq_zero.mp g2 with g3 | g3
            · exact hp g3
            · exact s3 c (by omega) g3
        · have ks := KB_step (i := i) (by omega)
          by_cases e1 : o = i
          · rw [e1, si]
            have h1 := sb i t (by omega) ht
            have h2 : KB i ≤ KB i * KB i := Nat.le_mul_of_pos_left _ (KB_pos i)
            omega
          · rw [st o t e1]
            have h1 := mulA (sb i i (by omega) (by omega)) (sb o t ho ht)
            have h2 := mulA (sb o i ho (by omega)) (sb i t (by omega) ht)
            omega
      · rw [if_neg g] at hx; cases hx
theorem el_no {M : Mx} {rows m : Nat} (hr : rows ≤ 3) (hm : m ≤ rows) (hb : ∀ o t, o < rows → t < 5 → (M o t).natAbs ≤ 20) : ∀ i, i ≤ m → elR M rows i = none → ∃ y, Hm M rows 4 y 0 ∧ ∃ k, k < m ∧ y k ≠ 0 := by
  intro i
  induction i with
  | zero => intro _ h; rw [elR] at h; cases h
  | succ i ih =>
    intro hi h
    rw [elR] at h
    cases e : elR M rows i with
    | none => exact ih (by omega) e
    | some w =>
      rw [e] at h
      dsimp only at h
      by_cases g : fpv w i rows < rows
      · rw [if_pos g] at h; cases h
      · obtain ⟨s1, s2, s3, s4⟩ := elR_sp hr hb i (by omega) w e
        have z0 := fpv_no g
        have i3 : i < 3 := by omega
        match i, i3 with
        | 0, _ =>
          refine ⟨fun c => if c = 0 then 1 else 0, (s1 _ _).mp (fun o ho => ?_), 0, by omega, by decide⟩
          unfold lnH
          have := z0 o (by omega) ho
          simp only [sZ]
          rw [this]
          simp
        | 1, _ =>
          refine ⟨fun c => if c = 0 then -(w 0 1) else if c = 1 then w 0 0 else 0, (s1 _ _).mp (fun o ho => ?_), 1, by omega, by simpa using s3 0 (by omega)⟩
          unfold lnH
          simp only [sZ]
          simp
          by_cases e1 : o = 0
          · rw [e1]; grind
          · rw [s2 o 0 ho (by omega) e1, z0 o (by omega) ho]; grind
        | 2, _ =>
          refine ⟨fun c => if c = 0 then -(w 0 2 * w 1 1) else if c = 1 then -(w 1 2 * w 0 0) else if c = 2 then w 0 0 * w 1 1 else 0, (s1 _ _).mp (fun o ho => ?_), 2, by omega, ?_⟩
          · unfold lnH
            simp only [sZ]
            simp
            by_cases e1 : o = 0
            · rw [e1, s2 0 1 (by omega) (by omega) (by omega)]; grind
            · by_cases e2 : o = 1
              · rw [e2, s2 1 0 (by omega) (by omega) (by omega)]; grind
              · rw [s2 o 0 ho (by omega) e1, s2 o 1 ho (by omega) e2, z0 o (by omega) ho]; grind
          · simp only [show ¬ (2 = 0) from by decide, show ¬ (2 = 1) from by decide, if_false, if_true]
            intro g2
            rcases Int.mul_eq_zero.mp g2 with g3 | g3
            · exact s3 0 (by omega) g3
            · exact s3 1 (by omega) g3
/-- the rows of a set as the reference lays them -/
def Mm (f : Nat → Int32) (b : Nat → Int) (S : Nat → Bool) (n : Nat) : Mx := fun o t => if t < cnS S n then aZ f o (mb S n t) else if t = 4 then b o else 0
theorem sZ_pad {F : Nat → Int} {m : Nat} : ∀ k, (∀ i, m ≤ i → i < m + k → F i = 0) → sZ F (m + k) = sZ F m := by
  intro k
  induction k with
  | zero => intro _; rfl
  | succ k ih =>
    intro h
    rw [← Nat.add_assoc, sZ, ih (fun i a b => h i a (by omega)), h (m + k) (by omega) (by omega), Int.add_zero]
theorem Mm_H {f : Nat → Int32} {b : Nat → Int} {S : Nat → Bool} {n r : Nat} {y : Nat → Int} {z : Int} (hr : r ≤ 3) (hm : cnS S n ≤ 4) (hn : n ≤ 8) (hZ : ZB f r) (hb : ∀ o, r ≤ o → o < 3 → b o = 0) : Hm (Mm f b S n) r 4 y z ↔ Hm (M3 f b S n) 3 (cnS S n) y z := by
  have key : ∀ o, o < 3 → (lnH (Mm f b S n) 4 o y z ↔ lnH (M3 f b S n) (cnS S n) o y z) := fun o ho => by
    unfold lnH
    have e1 : sZ (fun c => Mm f b S n o c * y c) 4 = sZ (fun c => Mm f b S n o c * y c) (cnS S n) := by
      have := sZ_pad (F := fun c => Mm f b S n o c * y c) (m := cnS S n) (4 - cnS S n) (fun i a c => by
        unfold Mm
        rw [if_neg (by omega), if_neg (by omega), Int.zero_mul])
      rw [show cnS S n + (4 - cnS S n) = 4 from by omega] at this
      exact this
    have e2 : sZ (fun c => Mm f b S n o c * y c) (cnS S n) = sZ (fun c => M3 f b S n o c * y c) (cnS S n) := sZ_congr (fun i hi => by unfold Mm M3; rw [if_pos hi, if_pos hi])
    have e3 : Mm f b S n o 4 = M3 f b S n o (cnS S n) := by
      unfold Mm M3 bZ
      rw [if_neg (by omega), if_pos rfl, if_neg (by omega), if_pos ho]
    rw [e1, e2, e3]
  constructor
  · intro h o ho
    by_cases e : o < r
    · exact (key o ho).mp (h o e)
    · unfold lnH
      have e3 : M3 f b S n o (cnS S n) = 0 := by
        unfold M3 bZ
        rw [if_neg (by omega), if_pos ho, hb o (by omega) ho]
      rw [e3, Int.zero_mul, sZ_0]
      intro i hi
      have e4 : M3 f b S n o i = 0 := by
        unfold M3 aZ
        rw [if_pos hi, if_pos ho, (hZ o (by omega) ho).2 _ (by have := (mb_sp hi).1; omega)]
        rfl
      rw [e4, Int.zero_mul]
  · intro h o ho
    exact (key o (by omega)).mpr (h o (by omega))
/-- what the reference takes for a solution -/
def elG (x : Mx) (rows m : Nat) : Prop := (∀ o, o < rows → m ≤ o → x o 4 = 0) ∧ ∀ k, k < m → x k 4 ≠ 0 ∧ (0 < x k 4 ↔ 0 < x k k)
theorem sZ_diag4 {x : Mx} {rows m k : Nat} {y : Nat → Int} (hm : m ≤ 4) (hk : k < rows) (h2 : ∀ c, c < m → k ≠ c → x k c = 0) (h4 : ∀ c, m ≤ c → c < 4 → x k c = 0) : sZ (fun c => x k c * y c) 4 = if k < m then x k k * y k else 0 := by
  by_cases e : k < m
  · rw [if_pos e]
    refine sZ_one (F := fun c => x k c * y c) (by omega) (fun c hc hne => ?_)
    by_cases g : c < m
    · rw [h2 c g (by omega), Int.zero_mul]
    · rw [h4 c (by omega) hc, Int.zero_mul]
  · rw [if_neg e]
    refine sZ_0 (fun c hc => ?_)
    by_cases g : c < m
    · rw [h2 c g (by omega), Int.zero_mul]
    · rw [h4 c (by omega) hc, Int.zero_mul]
/-- columns that are nothing stay so -/
theorem el_pad {M : Mx} {rows m : Nat} (h0 : ∀ o c, m ≤ c → c < 4 → M o c = 0) : ∀ i, i ≤ m → ∀ x, elR M rows i = some x → ∀ o c, m ≤ c → c < 4 → x o c = 0 := by
  intro i
  induction i with
  | zero => intro _ x hx; rw [elR] at hx; injection hx with hx; rw [← hx]; exact h0
  | succ i ih =>
    intro hi x hx
    rw [elR] at hx
    cases e : elR M rows i with
    | none => rw [e] at hx; cases hx
    | some w =>
      rw [e] at hx
      dsimp only at hx
      have hw := ih (by omega) w e
      by_cases g : fpv w i rows < rows
      · rw [if_pos g] at hx
        injection hx with hx
        rw [← hx]
        intro o c h1 h2
        have sw : ∀ o, swp w i (fpv w i rows) o c = 0 := fun o => by
          unfold swp
          split
          · exact hw _ c h1 h2
          · split
            · exact hw _ c h1 h2
            · exact hw _ c h1 h2
        unfold stpB
        rw [sw o, sw i, Int.mul_zero, Int.mul_zero]
        split
        · rfl
        · exact Int.zero_ediv _
      · rw [if_neg g] at hx; cases hx
theorem el_eq {f : Nat → Int32} {b : Nat → Int} {S : Nat → Bool} {n r : Nat} (hF : FB f n) (hb : ∀ o, o < 3 → (b o).natAbs ≤ 20) (hr : r ≤ 3) (hm : cnS S n ≤ r) (hn : n ≤ 8) (hZ : ZB f r) (hb0 : ∀ o, r ≤ o → o < 3 → b o = 0) : (∀ x, elR (Mm f b S n) r (cnS S n) = some x → elG x r (cnS S n) → ∃ w, barS f b S n 3 = some w ∧ ∀ k, k < cnS S n → x k k * w.1 (mb S n k) = x k 4 * w.2) ∧ ((elR (Mm f b S n) r (cnS S n) = none ∨ ∃ x, elR (Mm f b S n) r (cnS S n) = some x ∧ ¬ elG x r (cnS S n)) → barS f b S n 3 = none) := by
  have hH := fun y z => Mm_H (f := f) (b := b) (S := S) (n := n) (y := y) (z := z) hr (by omega) hn hZ hb0
  have bd : ∀ o t, o < r → t < 5 → (Mm f b S n o t).natAbs ≤ 20 := fun o t ho ht => by
    unfold Mm
    split
    · rename_i g
      unfold aZ
      rw [if_pos (by omega)]
      have := hF (mb S n t) o (mb_sp g).1 (by omega)
      omega
    · split
      · exact hb o (by omega)
      · decide
  have pad0 : ∀ o c, cnS S n ≤ c → c < 4 → Mm f b S n o c = 0 := fun o c h1 h2 => by
    unfold Mm
    rw [if_neg (by omega), if_neg (by omega)]
  refine ⟨fun x hx g => ?_, fun hno => ?_⟩
  · obtain ⟨s1, s2, s3, s4⟩ := elR_sp hr bd _ hm x hx
    have pad := el_pad pad0 _ (Nat.le_refl _) x hx
    have dg : ∀ (k : Nat) (y : Nat → Int), k < r → sZ (fun c => x k c * y c) 4 = if k < cnS S n then x k k * y k else 0 := fun k y hk => sZ_diag4 (by omega) hk (fun c hc hne => s2 k c hk hc hne) (fun c h1 h2 => pad k c h1 h2)
    have ind : Ind (M3 f b S n) 3 (cnS S n) := fun y hy i hi => by
      have := (s1 y 0).mpr ((hH y 0).mpr hy) i (by omega)
      unfold lnH at this
      rw [dg i y (by omega), if_pos hi, Int.mul_zero] at this
      exact (Int.mul_eq_zero.mp this).resolve_left (s3 i hi)
    cases e : barS f b S n 3 with
    | some w =>
      refine ⟨w, rfl, fun k hk => ?_⟩
      obtain ⟨k1, k2, k3, -⟩ := barS_some hF hb (by omega) (by omega) e
      have := (s1 _ _).mpr ((hH _ _).mpr (Hm_S.mpr k2.2.2)) k (by omega)
      unfold lnH at this
      rw [dg k _ (by omega), if_pos hk] at this
      exact this
    | none =>
      exfalso
      refine barS_none hF hb (by omega) (by omega) e (Ind_S.mp ind) ?_
      have main : ∃ y z, Sol (M3 f b S n) 3 (cnS S n) y z := by
        have sg : ∀ k, k < cnS S n → 0 < x k 4 * x k k := fun k hk => by
          obtain ⟨g1, g2⟩ := g.2 k hk
          by_cases g3 : 0 < x k 4
          · exact Int.mul_pos g3 (g2.mp g3)
          · have g4 : ¬ 0 < x k k := fun g5 => g3 (g2.mpr g5)
            have := s3 k hk
            exact Int.mul_pos_of_neg_of_neg (by omega) (by omega)
        have mk : ∀ (y : Nat → Int) (z : Int), 0 < z → (∀ k, k < cnS S n → 0 < y k ∧ x k k * y k = x k 4 * z) → ∃ y z, Sol (M3 f b S n) 3 (cnS S n) y z := fun y z hz hy => by
          refine ⟨y, z, hz, fun i hi => (hy i hi).1, (hH y z).mp ((s1 y z).mp (fun o ho => ?_))⟩
          unfold lnH
          rw [dg o y ho]
          by_cases g3 : o < cnS S n
          · rw [if_pos g3]; exact (hy o g3).2
          · rw [if_neg g3, g.1 o ho (by omega), Int.zero_mul]
        have sq : ∀ k, k < cnS S n → 0 < x k k * x k k := fun k hk => by
          have := s3 k hk
          rcases Int.lt_or_gt_of_ne this with g3 | g3
          · exact Int.mul_pos_of_neg_of_neg g3 g3
          · exact Int.mul_pos g3 g3
        have hc : cnS S n = 0 ∨ cnS S n = 1 ∨ cnS S n = 2 ∨ cnS S n = 3 := by omega
        rcases hc with hmm | hmm | hmm | hmm
        · exact mk (fun _ => 0) 1 (by decide) (fun k hk => by omega)
        · exact mk (fun _ => x 0 4 * x 0 0) (x 0 0 * x 0 0) (sq 0 (by omega)) (fun k hk => by
            have e0 : k = 0 := by omega
            rw [e0]
            exact ⟨sg 0 (by omega), by grind⟩)
        · exact mk (fun k => if k = 0 then (x 0 4 * x 0 0) * (x 1 1 * x 1 1) else (x 1 4 * x 1 1) * (x 0 0 * x 0 0)) ((x 0 0 * x 0 0) * (x 1 1 * x 1 1)) (Int.mul_pos (sq 0 (by omega)) (sq 1 (by omega))) (fun k hk => by
            have e0 : k = 0 ∨ k = 1 := by omega
            rcases e0 with e0 | e0
            · rw [e0]; exact ⟨Int.mul_pos (sg 0 (by omega)) (sq 1 (by omega)), by simp; grind⟩
            · rw [e0]; exact ⟨Int.mul_pos (sg 1 (by omega)) (sq 0 (by omega)), by simp; grind⟩)
        · exact mk (fun k => if k = 0 then (x 0 4 * x 0 0) * ((x 1 1 * x 1 1) * (x 2 2 * x 2 2)) else if k = 1 then (x 1 4 * x 1 1) * ((x 0 0 * x 0 0) * (x 2 2 * x 2 2)) else (x 2 4 * x 2 2) * ((x 0 0 * x 0 0) * (x 1 1 * x 1 1))) ((x 0 0 * x 0 0) * ((x 1 1 * x 1 1) * (x 2 2 * x 2 2))) (Int.mul_pos (sq 0 (by omega)) (Int.mul_pos (sq 1 (by omega)) (sq 2 (by omega)))) (fun k hk => by
            have e0 : k = 0 ∨ k = 1 ∨ k = 2 := by omega
            rcases e0 with e0 | e0 | e0
            · rw [e0]; exact ⟨Int.mul_pos (sg 0 (by omega)) (Int.mul_pos (sq 1 (by omega)) (sq 2 (by omega))), by simp; grind⟩
            · rw [e0]; exact ⟨Int.mul_pos (sg 1 (by omega)) (Int.mul_pos (sq 0 (by omega)) (sq 2 (by omega))), by simp; grind⟩
            · rw [e0]; exact ⟨Int.mul_pos (sg 2 (by omega)) (Int.mul_pos (sq 0 (by omega)) (sq 1 (by omega))), by simp; grind⟩)
      obtain ⟨y, z, hs⟩ := main
      exact ⟨_, _, Sol_S hs⟩
  · cases e : barS f b S n 3 with
    | none => rfl
    | some w =>
      exfalso
      obtain ⟨k1, k2, k3, -⟩ := barS_some hF hb (by omega) (by omega) e
      have k1 := (Ind_S (b := b)).mpr k1
      rcases hno with hno | ⟨x, hx, hg⟩
      · obtain ⟨y, hy, k, hk, hyk⟩ := el_no hr hm bd _ (Nat.le_refl _) hno
        exact hyk (k1 y ((hH y 0).mp hy) k hk)
      · obtain ⟨s1, s2, s3, s4⟩ := elR_sp hr bd _ hm x hx
        have pad := el_pad pad0 _ (Nat.le_refl _) x hx
        have dg : ∀ (k : Nat) (y : Nat → Int), k < r → sZ (fun c => x k c * y c) 4 = if k < cnS S n then x k k * y k else 0 := fun k y hk => sZ_diag4 (by omega) hk (fun c hc hne => s2 k c hk hc hne) (fun c h1 h2 => pad k c h1 h2)
        have sl := (s1 _ _).mpr ((hH _ _).mpr (Hm_S.mpr k2.2.2))
        refine hg ⟨fun o ho hmo => ?_, fun k hk => ?_⟩
        · have := sl o ho
          unfold lnH at this
          rw [dg o _ ho, if_neg (by omega)] at this
          have hz := k2.1
          exact (Int.mul_eq_zero.mp this.symm).resolve_right (by omega)
        · have := sl k (by omega)
          unfold lnH at this
          rw [dg k _ (by omega), if_pos hk] at this
          obtain ⟨m1, m2, m3⟩ := mb_sp hk
          have hy := k2.2.1 _ m1 m2
          have hz := k2.1
          have h3 := s3 k hk
          have ne : x k 4 ≠ 0 := fun g2 => by
            rw [g2, Int.zero_mul] at this
            rcases Int.mul_eq_zero.mp this with g3 | g3
            · exact h3 g3
            · omega
          refine ⟨ne, fun g2 => ?_, fun g2 => ?_⟩
          · have h1 := Int.mul_pos g2 hz
            rw [← this] at h1
            rcases Int.lt_or_gt_of_ne h3 with g3 | g3
            · exact absurd h1 (Int.not_lt.mpr (Int.le_of_lt (Int.mul_neg_of_neg_of_pos g3 hy)))
            · exact g3
          · have h1 := Int.mul_pos g2 hy
            rw [this] at h1
            rcases Int.lt_or_gt_of_ne ne with g3 | g3
            · exact absurd h1 (Int.not_lt.mpr (Int.le_of_lt (Int.mul_neg_of_neg_of_pos g3 hz)))
            · exact g3
