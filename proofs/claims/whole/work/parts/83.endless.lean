/-! Gains without end: a mix that comes to nothing, or one column that others undo -/
def br4 (f : Nat → Int32) (n s : Nat) : Option ((Nat → Int) × Int) := if cnS (bS s) n ≤ 4 then barS f (fun _ => 0) (bS s) n 4 else none
def endX (f : Nat → Int32) (n : Nat) : Prop := ∃ s, 1 ≤ s ∧ s < 2 ^ n ∧ ∃ w, br4 f n s = some w ∧ 0 < Gn f w.1 n
/-- one column more or less -/
theorem bS_xor (s c c' : Nat) : bS (s ^^^ 2 ^ c) c' = (if c' = c then !(bS s c') else bS s c') := by
  unfold bS
  rw [Nat.testBit_xor, Nat.testBit_two_pow]
  by_cases e : c' = c
  · rw [if_pos e, e]
    simp
  · rw [if_neg e]
    have : decide (c = c') = false := decide_eq_false (fun g => e g.symm)
    rw [this]
    simp
/-- a sum over a set and one column more -/
theorem sZ_more {S T : Nat → Bool} {G : Nat → Int} {n c : Nat} (hc : c < n) (h1 : S c = false) (h2 : T c = true) (h3 : ∀ c', c' ≠ c → T c' = S c') : sZ (fun c' => if T c' = true then G c' else 0) n = sZ (fun c' => if S c' = true then G c' else 0) n + G c := by
  have e1 : sZ (fun c' => if c' = c then G c' else 0) n = G c := by
    have := sZ_one (F := fun c' => if c' = c then G c' else 0) (k := c) (n := n) hc (fun i _ hi => by rw [if_neg hi])
    rw [this, if_pos rfl]
  rw [← e1, ← sZ_add]
  refine sZ_congr (fun c' _ => ?_)
  by_cases g : c' = c
  · rw [g, h1, h2, if_pos rfl, if_neg (by decide), if_pos rfl, Int.zero_add]
  · rw [h3 c' g, if_neg g, Int.add_zero]
theorem cnS_more {S T : Nat → Bool} {n c : Nat} (hc : c < n) (h1 : S c = false) (h2 : T c = true) (h3 : ∀ c', c' ≠ c → T c' = S c') : cnS T n = cnS S n + 1 := by
  have gen : ∀ k, (k ≤ c → cnS T k = cnS S k) ∧ (c < k → cnS T k = cnS S k + 1) := by
    intro k
    induction k with
    | zero => exact ⟨fun _ => rfl, fun h => absurd h (Nat.not_lt_zero _)⟩
    | succ k ih =>
      refine ⟨fun hk => ?_, fun hk => ?_⟩
      · have e := h3 k (by omega)
        cases g : S k
        · rw [cnS_f g, cnS_f (by rw [e]; exact g)]; exact ih.1 (by omega)
        · rw [cnS_t g, cnS_t (by rw [e]; exact g), ih.1 (by omega)]
      · by_cases g0 : k = c
        · have i1 := ih.1 (by omega)
          rw [g0] at i1 ⊢
          rw [cnS_t h2, cnS_f h1, i1]
        · have e := h3 k g0
          cases g : S k
          · rw [cnS_f g, cnS_f (by rw [e]; exact g)]; exact ih.2 (by omega)
          · rw [cnS_t g, cnS_t (by rw [e]; exact g), ih.2 (by omega)]
  exact (gen n).2 hc
theorem Gn_if {f : Nat → Int32} {S : Nat → Bool} {Y : Nat → Int} {n : Nat} (h : ∀ c, ¬ (c < n ∧ S c = true) → Y c = 0) : Gn f Y n = sZ (fun c => if S c = true then gZ f c * Y c else 0) n := by
  unfold Gn
  refine sZ_congr (fun c hc => ?_)
  cases g : S c
  · rw [if_neg (by decide), h c (fun y => by rw [g] at y; exact absurd y.2 (by decide)), Int.mul_zero]
  · rw [if_pos rfl]
theorem sZ_ifmul {S : Nat → Bool} {F G : Nat → Int} {a b : Int} {n : Nat} (h : ∀ c, c < n → S c = true → a * F c = b * G c) : a * sZ (fun c => if S c = true then F c else 0) n = b * sZ (fun c => if S c = true then G c else 0) n := by
  rw [← sZ_mul, ← sZ_mul]
  refine sZ_congr (fun c hc => ?_)
  cases g : S c
  · rw [if_neg (by decide), if_neg (by decide), Int.mul_zero, Int.mul_zero]
  · rw [if_pos rfl, if_pos rfl]; exact h c hc g
theorem sZ_ifadd {S : Nat → Bool} {F G : Nat → Int} {n : Nat} : sZ (fun c => if S c = true then F c + G c else 0) n = sZ (fun c => if S c = true then F c else 0) n + sZ (fun c => if S c = true then G c else 0) n := by
  rw [← sZ_add]
  refine sZ_congr (fun c hc => ?_)
  cases g : S c
  · rw [if_neg (by decide), if_neg (by decide), if_neg (by decide), Int.add_zero]
  · rw [if_pos rfl, if_pos rfl, if_pos rfl]
theorem sZ_pos {S : Nat → Bool} {Y : Nat → Int} : ∀ {n : Nat}, (∀ c, c < n → S c = true → 0 < Y c) → 0 ≤ sZ (fun c => if S c = true then Y c else 0) n := by
  intro n
  induction n with
  | zero => intro _; exact Int.le_refl _
  | succ n ih =>
    intro h
    have h1 := ih (fun c hc => h c (by omega))
    rw [sZ]
    cases g : S n
    · rw [if_neg (by decide)]; omega
    · rw [if_pos rfl]
      have := h n (by omega) g
      omega
theorem end_rnd {f : Nat → Int32} {r n : Nat} (hF : FB f n) (hn : n ≤ 8) (hr : r ≤ 3) : endX f n ↔ rndP f n := by
  have a3 : ∀ o c, o < 3 → aZ f o c = (f (3 * c + o)).toInt := fun o c ho => by unfold aZ; rw [if_pos ho]
  have b3 : ∀ (b : Nat → Int) o, o < 3 → bZ b o = b o := fun b o ho => by unfold bZ; rw [if_pos ho]
  constructor
  · rintro ⟨s, hs1, hs2, w, hw, hg⟩
    unfold br4 at hw
    by_cases le : cnS (bS s) n ≤ 4
    · rw [if_pos le] at hw
      obtain ⟨ind, sol, z0, -, -, -⟩ := barS_some hF (fun o _ => Nat.zero_le _) (by omega) le hw
      obtain ⟨hz, hy, hH⟩ := sol
      -- a member
      have mem : ∃ c, c < n ∧ bS s c = true := by
        by_cases e : ∃ c, c < n ∧ bS s c = true
        · exact e
        · exfalso
          have : s = 0 := by
            refine Nat.eq_of_testBit_eq (fun i => ?_)
            rw [Nat.zero_testBit]
            by_cases hi : i < n
            · cases g : s.testBit i
              · rfl
              · exact absurd ⟨i, hi, g⟩ e
            · exact Nat.testBit_lt_two_pow (Nat.lt_of_lt_of_le hs2 (Nat.pow_le_pow_right (by decide) (by omega)))
          omega
      obtain ⟨c, hc, hSc⟩ := mem
      have t1 : bS (s ^^^ 2 ^ c) c = false := by rw [bS_xor, if_pos rfl, hSc]; rfl
      have t3 : ∀ c', c' ≠ c → bS s c' = bS (s ^^^ 2 ^ c) c' := fun c' h => by rw [bS_xor, if_neg h]
      have cn := cnS_more hc t1 hSc t3
      have more := fun G => sZ_more (G := G) hc t1 hSc t3
      have yc := hy c hc hSc
      have sub : ∀ c', c' < n → bS (s ^^^ 2 ^ c) c' = true → bS s c' = true ∧ c' ≠ c := fun c' hc' h => by
        have ne : c' ≠ c := fun g => by rw [g, t1] at h; cases h
        exact ⟨by rw [t3 c' ne]; exact h, ne⟩
      have row : ∀ o, o < 3 → sZ (fun c' => if bS (s ^^^ 2 ^ c) c' = true then aZ f o c' * w.1 c' else 0) n = -(aZ f o c) * w.1 c := fun o ho => by
        have := hH o (by omega)
        rw [more (fun c' => aZ f o c' * w.1 c'), b3 _ o ho] at this
        have e : (0 : Int) * w.2 = 0 := Int.zero_mul _
        rw [Int.neg_mul]
        omega
      have row4 : sZ (fun c' => if bS s c' = true then w.1 c' else 0) n = w.2 := by
        have := hH 3 (by omega)
        have e1 : sZ (fun c' => if bS s c' = true then aZ f 3 c' * w.1 c' else 0) n = sZ (fun c' => if bS s c' = true then w.1 c' else 0) n := sZ_congr (fun c' _ => by
          have : aZ f 3 c' = 1 := by unfold aZ; rw [if_neg (by decide)]
          rw [this, Int.one_mul])
        rw [e1] at this
        rw [this]
        show 1 * w.2 = w.2
        omega
      have sol3 : SolS f (aN f c) (bS (s ^^^ 2 ^ c)) n 3 w.1 (w.1 c) := by
        refine ⟨yc, fun c' hc' h => hy c' hc' (sub c' hc' h).1, fun o ho => ?_⟩
        rw [row o ho, b3 _ o ho, a3 o c ho]
        rfl
      have ind3 : IndS f (bS (s ^^^ 2 ^ c)) n 3 := by
        intro u hu
        let σ := sZ (fun c' => if bS (s ^^^ 2 ^ c) c' = true then u c' else 0) n
        have hv := ind (fun c' => w.2 * (if c' = c then 0 else u c') - σ * w.1 c') (fun o ho => ?_)
        · have hcv := hv c hc hSc
          rw [if_pos rfl, Int.mul_zero] at hcv
          have s0 : σ = 0 := by
            have : σ * w.1 c = 0 := by omega
            exact (Int.mul_eq_zero.mp this).resolve_right (by omega)
          intro c' hc' hS'
          obtain ⟨m1, m2⟩ := sub c' hc' hS'
          have := hv c' hc' m1
          rw [if_neg m2, s0, Int.zero_mul, Int.sub_zero] at this
          exact (Int.mul_eq_zero.mp this).resolve_left (by omega)
        · rw [Int.mul_zero]
          have split : sZ (fun c' => if bS s c' = true then aZ f o c' * (w.2 * (if c' = c then 0 else u c') - σ * w.1 c') else 0) n = w.2 * sZ (fun c' => if bS s c' = true then aZ f o c' * (if c' = c then 0 else u c') else 0) n + (-σ) * sZ (fun c' => if bS s c' = true then aZ f o c' * w.1 c' else 0) n := by
            rw [← sZ_mul, ← sZ_mul, ← sZ_add]
            refine sZ_congr (fun c' _ => ?_)
            cases bS s c'
            · simp
            · simp only [if_true]
              grind
          have uo : sZ (fun c' => if bS s c' = true then aZ f o c' * (if c' = c then 0 else u c') else 0) n = sZ (fun c' => if bS (s ^^^ 2 ^ c) c' = true then aZ f o c' * u c' else 0) n := by
            rw [more (fun c' => aZ f o c' * (if c' = c then 0 else u c')), if_pos rfl, Int.mul_zero, Int.add_zero]
            refine sZ_congr (fun c' _ => ?_)
            by_cases g : c' = c
            · rw [g, t1, if_neg (by decide), if_neg (by decide)]
            · rw [if_neg g]
          show sZ (fun c' => if bS s c' = true then aZ f o c' * (w.2 * (if c' = c then 0 else u c') - σ * w.1 c') else 0) n = 0
          rw [split, uo]
          by_cases g : o < 3
          · have h1 := hu o g
            have h2 := hH o ho
            rw [Int.mul_zero] at h1
            rw [b3 _ o g] at h2
            have e : (0 : Int) * w.2 = 0 := Int.zero_mul _
            rw [h1, h2, e, Int.mul_zero, Int.mul_zero]
            rfl
          · have o3 : o = 3 := by omega
            have a1 : ∀ c', aZ f o c' = 1 := fun c' => by unfold aZ; rw [if_neg g]
            have e1 : sZ (fun c' => if bS (s ^^^ 2 ^ c) c' = true then aZ f o c' * u c' else 0) n = σ := sZ_congr (fun c' _ => by rw [a1, Int.one_mul])
            have e2 : sZ (fun c' => if bS s c' = true then aZ f o c' * w.1 c' else 0) n = w.2 := by
              rw [← row4]
              exact sZ_congr (fun c' _ => by rw [a1, Int.one_mul])
            rw [e1, e2, Int.mul_comm, Int.neg_mul]
            omega
      have hab : ∀ o, o < 3 → (aN f c o).natAbs ≤ 20 := fun o ho => by
        have := hF c o hc ho
        unfold aN
        omega
      refine ⟨c, s ^^^ 2 ^ c, hc, Nat.xor_lt_two_pow hs2 (Nat.pow_lt_pow_right (by decide) hc), t1, ?_⟩
      have eb : brS f (aN f c) n (s ^^^ 2 ^ c) = barS f (aN f c) (bS (s ^^^ 2 ^ c)) n 3 := by unfold brS; rw [if_pos (by omega)]
      cases ev : barS f (aN f c) (bS (s ^^^ 2 ^ c)) n 3 with
      | none => exact absurd ⟨_, _, sol3⟩ (barS_none hF hab (by omega) (by omega) ev ind3)
      | some v =>
        obtain ⟨-, vs, vz, -⟩ := barS_some hF hab (by omega) (by omega) ev
        refine ⟨v, eb.trans ev, ?_⟩
        have prop : ∀ c', c' < n → bS (s ^^^ 2 ^ c) c' = true → w.1 c * v.1 c' = v.2 * w.1 c' := fun c' hc' h => (SolS_eq ind3 sol3.2.2 vs.2.2 hc' h).symm
        have e1 : w.1 c * Gn f v.1 n = v.2 * sZ (fun c' => if bS (s ^^^ 2 ^ c) c' = true then gZ f c' * w.1 c' else 0) n := by
          rw [Gn_if vz]
          refine sZ_ifmul (fun c' hc' h => ?_)
          have := prop c' hc' h
          calc w.1 c * (gZ f c' * v.1 c') = gZ f c' * (w.1 c * v.1 c') := by grind
            _ = gZ f c' * (v.2 * w.1 c') := by rw [this]
            _ = v.2 * (gZ f c' * w.1 c') := by grind
        have e2 : Gn f w.1 n = sZ (fun c' => if bS (s ^^^ 2 ^ c) c' = true then gZ f c' * w.1 c' else 0) n + gZ f c * w.1 c := by
          rw [Gn_if z0]
          exact more (fun c' => gZ f c' * w.1 c')
        have e3 : w.1 c * (Gn f v.1 n + gZ f c * v.2) = v.2 * Gn f w.1 n := by
          rw [e2, Int.mul_add, e1, Int.mul_add]
          grind
        have pos : 0 < w.1 c * (Gn f v.1 n + gZ f c * v.2) := by rw [e3]; exact Int.mul_pos vs.1 hg
        by_cases g : 0 < Gn f v.1 n + gZ f c * v.2
        · exact g
        · have := Int.mul_nonpos_of_nonneg_of_nonpos (Int.le_of_lt yc) (show Gn f v.1 n + gZ f c * v.2 ≤ 0 by omega)
          omega
    · rw [if_neg le] at hw; cases hw
  · rintro ⟨c, s, hc, hs2, t1, w, hw, hg⟩
    have hab : ∀ o, o < 3 → (aN f c o).natAbs ≤ 20 := fun o ho => by
      have := hF c o hc ho
      unfold aN
      omega
    unfold brS at hw
    by_cases le : cnS (bS s) n ≤ 3
    · rw [if_pos le] at hw
      obtain ⟨ind, sol, z0, -⟩ := barS_some hF hab (by omega) le hw
      obtain ⟨hz, hy, hH⟩ := sol
      have hSc : bS (s ^^^ 2 ^ c) c = true := by rw [bS_xor, if_pos rfl]; unfold bS; rw [t1]; rfl
      have t1' : bS s c = false := t1
      have t3 : ∀ c', c' ≠ c → bS (s ^^^ 2 ^ c) c' = bS s c' := fun c' h => by rw [bS_xor, if_neg h]
      have cn := cnS_more hc t1' hSc t3
      have more := fun G => sZ_more (G := G) hc t1' hSc t3
      have Yc : ∀ c', c' < n → bS s c' = true → c' ≠ c := fun c' _ h g => by rw [g, t1'] at h; cases h
      let Y : Nat → Int := fun c' => if c' = c then w.2 else w.1 c'
      have Ye : ∀ G : Nat → Int, sZ (fun c' => if bS (s ^^^ 2 ^ c) c' = true then G c' * Y c' else 0) n = sZ (fun c' => if bS s c' = true then G c' * w.1 c' else 0) n + G c * w.2 := fun G => by
        rw [more (fun c' => G c' * Y c')]
        have e1 : Y c = w.2 := if_pos rfl
        rw [e1]
        congr 1
        refine sZ_congr (fun c' hc' => ?_)
        cases g : bS s c'
        · rw [if_neg (by decide), if_neg (by decide)]
        · have : Y c' = w.1 c' := if_neg (Yc c' hc' g)
          rw [if_pos rfl, if_pos rfl, this]
      let Z : Int := sZ (fun c' => if bS s c' = true then w.1 c' else 0) n + w.2
      have Zp : 0 < Z := by
        have := sZ_pos hy
        show 0 < _ + w.2
        omega
      have sol4 : SolS f (fun _ => 0) (bS (s ^^^ 2 ^ c)) n 4 Y Z := by
        refine ⟨Zp, fun c' hc' h => ?_, fun o ho => ?_⟩
        · by_cases g : c' = c
          · show 0 < (if c' = c then w.2 else w.1 c'); rw [if_pos g]; exact hz
          · show 0 < (if c' = c then w.2 else w.1 c'); rw [if_neg g]; exact hy c' hc' (by rw [← t3 c' g]; exact h)
        · rw [Ye (aZ f o)]
          by_cases g : o < 3
          · have := hH o g
            rw [this, b3 _ o g, b3 _ o g, a3 o c g]
            unfold aN
            rw [Int.neg_mul, Int.zero_mul]
            omega
          · have a1 : ∀ c', aZ f o c' = 1 := fun c' => by unfold aZ; rw [if_neg g]
            have e1 : sZ (fun c' => if bS s c' = true then aZ f o c' * w.1 c' else 0) n = sZ (fun c' => if bS s c' = true then w.1 c' else 0) n := sZ_congr (fun c' _ => by rw [a1, Int.one_mul])
            have e2 : bZ (fun _ => 0) o = 1 := by unfold bZ; rw [if_neg g]
            rw [e1, e2, a1, Int.one_mul, Int.one_mul]
      have ind4 : IndS f (bS (s ^^^ 2 ^ c)) n 4 := by
        intro v hv
        have h3 := ind (fun c' => w.2 * v c' - v c * w.1 c') (fun o ho => ?_)
        · have s4 := hv 3 (by omega)
          rw [Int.mul_zero] at s4
          have e1 : sZ (fun c' => if bS (s ^^^ 2 ^ c) c' = true then aZ f 3 c' * v c' else 0) n = sZ (fun c' => if bS s c' = true then v c' else 0) n + v c := by
            rw [more (fun c' => aZ f 3 c' * v c')]
            have a1 : ∀ c', aZ f 3 c' = 1 := fun c' => by unfold aZ; rw [if_neg (by decide)]
            rw [a1, Int.one_mul]
            congr 1
            exact sZ_congr (fun c' _ => by rw [a1, Int.one_mul])
          rw [e1] at s4
          have e2 : w.2 * sZ (fun c' => if bS s c' = true then v c' else 0) n = v c * sZ (fun c' => if bS s c' = true then w.1 c' else 0) n := sZ_ifmul (fun c' hc' h => by
            have := h3 c' hc' h
            omega)
          have e3 : v c * Z = 0 := by
            show v c * (_ + w.2) = 0
            rw [Int.mul_add, ← e2]
            have : sZ (fun c' => if bS s c' = true then v c' else 0) n = -(v c) := by omega
            rw [this]
            grind
          have vc : v c = 0 := (Int.mul_eq_zero.mp e3).resolve_right (by omega)
          intro c' hc' h
          by_cases g : c' = c
          · rw [g]; exact vc
          · have := h3 c' hc' (by rw [← t3 c' g]; exact h)
            rw [vc, Int.zero_mul, Int.sub_zero] at this
            exact (Int.mul_eq_zero.mp this).resolve_left (by omega)
        · rw [Int.mul_zero]
          have h1 := hv o (by omega)
          rw [Int.mul_zero, more (fun c' => aZ f o c' * v c')] at h1
          have h2 := hH o ho
          rw [b3 _ o ho] at h2
          show sZ (fun c' => if bS s c' = true then aZ f o c' * (w.2 * v c' - v c * w.1 c') else 0) n = 0
          have split : sZ (fun c' => if bS s c' = true then aZ f o c' * (w.2 * v c' - v c * w.1 c') else 0) n = w.2 * sZ (fun c' => if bS s c' = true then aZ f o c' * v c' else 0) n + (-(v c)) * sZ (fun c' => if bS s c' = true then aZ f o c' * w.1 c' else 0) n := by
            rw [← sZ_mul, ← sZ_mul, ← sZ_add]
            refine sZ_congr (fun c' _ => ?_)
            cases bS s c'
            · simp
            · simp only [if_true]
              grind
          rw [split, h2]
          have e : sZ (fun c' => if bS s c' = true then aZ f o c' * v c' else 0) n = -(aZ f o c * v c) := by omega
          rw [e, a3 o c ho]
          unfold aN
          grind
      refine ⟨s ^^^ 2 ^ c, ?_, Nat.xor_lt_two_pow hs2 (Nat.pow_lt_pow_right (by decide) hc), ?_⟩
      · by_cases g : s ^^^ 2 ^ c = 0
        · rw [g] at hSc
          unfold bS at hSc
          rw [Nat.zero_testBit] at hSc
          cases hSc
        · omega
      · have eb : br4 f n (s ^^^ 2 ^ c) = barS f (fun _ => 0) (bS (s ^^^ 2 ^ c)) n 4 := by unfold br4; rw [if_pos (by omega)]
        cases ev : barS f (fun _ => 0) (bS (s ^^^ 2 ^ c)) n 4 with
        | none => exact absurd ⟨_, _, sol4⟩ (barS_none hF (fun o _ => Nat.zero_le _) (by omega) (by omega) ev ind4)
        | some v =>
          obtain ⟨-, vs, vz, -⟩ := barS_some hF (fun o _ => Nat.zero_le _) (by omega) (by omega) ev
          refine ⟨v, eb.trans ev, ?_⟩
          have prop : ∀ c', c' < n → bS (s ^^^ 2 ^ c) c' = true → Z * v.1 c' = v.2 * Y c' := fun c' hc' h => (SolS_eq ind4 sol4.2.2 vs.2.2 hc' h).symm
          have e1 : Z * Gn f v.1 n = v.2 * sZ (fun c' => if bS (s ^^^ 2 ^ c) c' = true then gZ f c' * Y c' else 0) n := by
            rw [Gn_if vz]
            refine sZ_ifmul (fun c' hc' h => ?_)
            have := prop c' hc' h
            calc Z * (gZ f c' * v.1 c') = gZ f c' * (Z * v.1 c') := by grind
              _ = gZ f c' * (v.2 * Y c') := by rw [this]
              _ = v.2 * (gZ f c' * Y c') := by grind
          rw [Ye (gZ f), ← Gn_if z0] at e1
          have pos : 0 < Z * Gn f v.1 n := by rw [e1]; exact Int.mul_pos vs.1 hg
          by_cases g : 0 < Gn f v.1 n
          · exact g
          · have := Int.mul_nonpos_of_nonneg_of_nonpos (Int.le_of_lt Zp) (show Gn f v.1 n ≤ 0 by omega)
            omega
    · rw [if_neg le] at hw; cases hw
