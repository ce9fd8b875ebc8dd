/-! The class's corners: lines are solved -/
variable {h : Hp}
def bcE (v0 : Int32) : Int32 := (((((((v0 - ((jushr v0 (1 : Int32)) &&& (1431655765 : Int32))) &&& (858993459 : Int32)) + ((jushr (v0 - ((jushr v0 (1 : Int32)) &&& (1431655765 : Int32))) (2 : Int32)) &&& (858993459 : Int32))) + (jushr (((v0 - ((jushr v0 (1 : Int32)) &&& (1431655765 : Int32))) &&& (858993459 : Int32)) + ((jushr (v0 - ((jushr v0 (1 : Int32)) &&& (1431655765 : Int32))) (2 : Int32)) &&& (858993459 : Int32))) (4 : Int32))) &&& (252645135 : Int32)) + (jushr (((((v0 - ((jushr v0 (1 : Int32)) &&& (1431655765 : Int32))) &&& (858993459 : Int32)) + ((jushr (v0 - ((jushr v0 (1 : Int32)) &&& (1431655765 : Int32))) (2 : Int32)) &&& (858993459 : Int32))) + (jushr (((v0 - ((jushr v0 (1 : Int32)) &&& (1431655765 : Int32))) &&& (858993459 : Int32)) + ((jushr (v0 - ((jushr v0 (1 : Int32)) &&& (1431655765 : Int32))) (2 : Int32)) &&& (858993459 : Int32))) (4 : Int32))) &&& (252645135 : Int32)) (8 : Int32))) + (jushr ((((((v0 - ((jushr v0 (1 : Int32)) &&& (1431655765 : Int32))) &&& (858993459 : Int32)) + ((jushr (v0 - ((jushr v0 (1 : Int32)) &&& (1431655765 : Int32))) (2 : Int32)) &&& (858993459 : Int32))) + (jushr (((v0 - ((jushr v0 (1 : Int32)) &&& (1431655765 : Int32))) &&& (858993459 : Int32)) + ((jushr (v0 - ((jushr v0 (1 : Int32)) &&& (1431655765 : Int32))) (2 : Int32)) &&& (858993459 : Int32))) (4 : Int32))) &&& (252645135 : Int32)) + (jushr (((((v0 - ((jushr v0 (1 : Int32)) &&& (1431655765 : Int32))) &&& (858993459 : Int32)) + ((jushr (v0 - ((jushr v0 (1 : Int32)) &&& (1431655765 : Int32))) (2 : Int32)) &&& (858993459 : Int32))) + (jushr (((v0 - ((jushr v0 (1 : Int32)) &&& (1431655765 : Int32))) &&& (858993459 : Int32)) + ((jushr (v0 - ((jushr v0 (1 : Int32)) &&& (1431655765 : Int32))) (2 : Int32)) &&& (858993459 : Int32))) (4 : Int32))) &&& (252645135 : Int32)) (8 : Int32))) (16 : Int32))) &&& (63 : Int32)
theorem bcE_512 : ∀ s, s < 512 → bcE (nI s) = nI (cnS (bS s) 9) := by decide +kernel
theorem t_bitCount {s : Nat} {Q : Int32 → Hp → Prop} (hs : s < 512) (hq : Q (nI (cnS (bS s) 9)) h) : w_JI_bitCount (nI s) h Q := by
  show Q (bcE (nI s)) h
  rw [bcE_512 s hs]
  exact hq
/-- the cells hold so much -/
def CL (x : Mx) (lines m : Nat) (h : Hp) : Prop := ∀ o t, o < lines → t ≤ m → gL h 57 (5 * o + t) = lI (x o t)
theorem BI_bd {M : Mx} {lines m i : Nat} {x : Mx × Int} (b : BI M lines m i x) (hi : i ≤ 4) : (∀ o t, o < 4 → t < 5 → (x.1 o t).natAbs ≤ 3840000) ∧ x.2.natAbs ≤ 3840000 := by
  obtain ⟨s1, ⟨B, b1, b2, b3⟩, s3, s4⟩ := b
  refine ⟨fun o t ho ht => by rw [b2 o t ho ht]; exact (EF_bd b1 hi ho ht).1, ?_⟩
  rw [b3]
  match i, hi with
  | 0, _ => show (1 : Int).natAbs ≤ 3840000; decide
  | 1, _ => have := b1 0 0 (by omega) (by omega); show (B 0 0).natAbs ≤ _; omega
  | 2, _ => have := d2_bd (b1 0 0 (by omega) (by omega)) (b1 0 1 (by omega) (by omega)) (b1 1 0 (by omega) (by omega)) (b1 1 1 (by omega) (by omega)); show (d2 _ _ _ _).natAbs ≤ _; omega
  | 3, _ => have := d3_bd (b1 0 0 (by omega) (by omega)) (b1 0 1 (by omega) (by omega)) (b1 0 2 (by omega) (by omega)) (b1 1 0 (by omega) (by omega)) (b1 1 1 (by omega) (by omega)) (b1 1 2 (by omega) (by omega)) (b1 2 0 (by omega) (by omega)) (b1 2 1 (by omega) (by omega)) (b1 2 2 (by omega) (by omega)); show (d3 _ _ _ _ _ _ _ _ _).natAbs ≤ _; omega
  | 4, _ => exact d4_bd (b1 0 0 (by omega) (by omega)) (b1 0 1 (by omega) (by omega)) (b1 0 2 (by omega) (by omega)) (b1 0 3 (by omega) (by omega)) (b1 1 0 (by omega) (by omega)) (b1 1 1 (by omega) (by omega)) (b1 1 2 (by omega) (by omega)) (b1 1 3 (by omega) (by omega)) (b1 2 0 (by omega) (by omega)) (b1 2 1 (by omega) (by omega)) (b1 2 2 (by omega) (by omega)) (b1 2 3 (by omega) (by omega)) (b1 3 0 (by omega) (by omega)) (b1 3 1 (by omega) (by omega)) (b1 3 2 (by omega) (by omega)) (b1 3 3 (by omega) (by omega))
/-- a step divides without rest -/
theorem stp_ex {M : Mx} {lines m i q : Nat} {x : Mx × Int} (b : BI M lines m i x) (hi : i < 4) (hq : i ≤ q) (hq4 : q < 4) : ∀ o t, o < 4 → o ≠ i → t < 5 → stpB (swp x.1 i q) x.2 i o t * x.2 = swp x.1 i q i i * swp x.1 i q o t - swp x.1 i q o i * swp x.1 i q i t := by
  obtain ⟨s1, ⟨B, b1, b2, b3⟩, s3, s4⟩ := b
  have nb : ∀ o t, o < 4 → t < 5 → swp x.1 i q o t = EF (swp B i q) i o t := fun o t ho ht => by
    rw [EF_swp B t hi hq ho hq4]
    unfold swp
    split
    · exact b2 q t hq4 ht
    · split
      · exact b2 i t hi ht
      · exact b2 o t ho ht
  intro o t ho hne ht
  have ex : x.2 * EF (swp B i q) (i + 1) o t = swp x.1 i q i i * swp x.1 i q o t - swp x.1 i q o i * swp x.1 i q i t := by
    rw [nb i i hi (by omega), nb o t ho ht, nb o i ho (by omega), nb i t hi ht, ← EF_step (swp B i q) t hi ho hne, b3, dF_swp B hi hq]
  unfold stpB
  rw [if_neg hne, ← ex, Int.mul_ediv_cancel_left _ s3, Int.mul_comm]
theorem lI_ge1 {a : Int} (ha : a.natAbs < 2 ^ 62) : ¬ lI a = 0 ↔ a ≠ 0 := by rw [lI_e0 ha]
theorem t_Cr_eliminate {M : Mx} {lines m i : Nat} {x : Mx × Int} {Q : Bool → Hp → Prop} (k : XS h) (b : BI M lines m i x) (hm : m ≤ lines) (hl : lines ≤ 4) (hi : i < m) (hs : gI h 56 4 = nI m) (hd : gL h 56 5 = lI x.2) (cl : CL x.1 lines m h)
    (hq0 : ¬ fpv x.1 i lines < lines → Q false h) (hq1 : ∀ h', fpv x.1 i lines < lines → Fx [] [56, 57] h h' → (∀ k, k ≠ 5 → gL h' 56 k = gL h 56 k) → gL h' 56 5 = lI (swp x.1 i (fpv x.1 i lines) i i) → CL (stpB (swp x.1 i (fpv x.1 i lines)) x.2 i) lines m h' → Q true h') : w_Cr_eliminate 56 (nI i) (nI lines) h Q := by
  obtain ⟨xb, db⟩ := BI_bd b (by omega)
  have d0 := b.2.2.1
  obtain ⟨fq, fi⟩ := fpv_le (M := x.1) (i := i) (lines := lines) (by omega)
  have lo := fun o h1 h2 => fpv_lo (M := x.1) (i := i) (lines := lines) (o := o) (by omega) h1 h2
  have nz := fun g => (fpv_sp (M := x.1) (i := i) (lines := lines) (by omega) g).2.1
  revert fq fi lo nz hq0 hq1
  generalize fpv x.1 i lines = q
  intro hq0 hq1 fq fi lo nz
  -- from the line that is found on
  have rest : w_Cr_eliminate_B28 Q 56 (nI i) (nI lines) (nI q) h := by
    unfold w_Cr_eliminate_B28
    refine ⟨fun z => hq0 (by have := (nI_leI (by omega) (by omega)).mp z; omega), fun z => ⟨X_k56 k, ?_⟩⟩
    have lt : q < lines := Nat.lt_of_not_le (fun y => z (nI_le y (by omega)))
    rw [hd]
    refine ⟨fun y => absurd ((lI_e0 (by omega)).mp y) d0, fun _ => ?_⟩
    -- two lines change places
    refine loop_0 (fun a t s => w_Cr_eliminate_L47 Q 56 (nI i) (nI lines) (nI q) a (nI t) s) (fun t s => Fx [] [57] h s ∧ ∀ o t', o < lines → t' ≤ m → gL s 57 (5 * o + t') = lI (if t' < t then swp x.1 i q o t' else x.1 o t')) (m + 1) h ⟨fx_refl _ _ _, fun o t' ho ht' => by rw [if_neg (Nat.not_lt_zero _)]; exact cl o t' ho ht'⟩ ?_ ?_
    · rintro a s ⟨fs, es⟩
      have ks := fx_XS fs k
      have es2 : CL (swp x.1 i q) lines m s := fun o t ho ht => by rw [es o t ho ht, if_pos (by omega)]
      have hss : gI s 56 4 = nI m := by rw [fx_I fs (x := 56) (by decide)]; exact hs
      have hds : gL s 56 5 = lI x.2 := by rw [fx_L fs (x := 56) (by decide)]; exact hd
      have sw : ∀ o t, o < lines → t < 5 → (swp x.1 i q o t).natAbs ≤ 3840000 := fun o t ho ht => by
        unfold swp
        split
        · exact xb q t (by omega) ht
        · split
          · exact xb i t (by omega) ht
          · exact xb o t (by omega) ht
      have ex := stp_ex b (show i < 4 by omega) fi (by omega)
      unfold w_Cr_eliminate_L47
      rw [hss]
      refine ⟨X_k56 ks, fun _ => ?_, fun z => absurd (nI_lt (by omega) (by omega)) z⟩
      rw [X_r56_1 ks, X_k57 ks, X_n57 ks, show (5 : Int32) = nI 5 from rfl, pk_mul, nI_add, show i * 5 + i = 5 * i + i from by omega, ix_nI (n := 5 * i + i) (by omega), es2 i i (by omega) (by omega)]
      refine ⟨rfl, vp_in_nI (by omega) (by omega), ?_⟩
      refine loop_0 (fun a o s' => w_Cr_eliminate_L125 Q 56 (nI i) (nI lines) (lI (swp x.1 i q i i)) a (nI o) s') (fun o s' => Fx [] [57] h s' ∧ CL (fun o' t => if o' < o then stpB (swp x.1 i q) x.2 i o' t else swp x.1 i q o' t) lines m s') lines s ⟨fs, fun o t ho ht => by dsimp only; rw [if_neg (Nat.not_lt_zero _)]; exact es2 o t ho ht⟩ ?_ ?_
      · rintro a s' ⟨f', e'⟩
        unfold w_Cr_eliminate_L125
        refine ⟨fun _ => ⟨X_k56 (fx_XS f' k), hq1 _ lt (fx_trans (fx_mono f' (by simp) (by simp)) (fx_sL _ _ (by simp))) (fun kk hk => ?_) ?_ (fun o t ho ht => ?_)⟩, fun z => absurd (Int32.le_refl _) z⟩
        · rw [gL_sL, if_neg (fun y => hk y.2), fx_L f' (x := 56) (by decide)]
        · rw [gL_sL, if_pos ⟨rfl, rfl⟩]
        · have := e' o t ho ht
          dsimp only at this
          rw [if_pos ho] at this
          rw [gL_sL, if_neg (fun y => absurd y.1 (by decide))]
          exact this
      · rintro a o s' ho ⟨f', e'⟩ ih
        have k' := fx_XS f' k
        have hs' : gI s' 56 4 = nI m := by rw [fx_I f' (x := 56) (by decide)]; exact hs
        have hd' : gL s' 56 5 = lI x.2 := by rw [fx_L f' (x := 56) (by decide)]; exact hd
        have eo : ∀ t, t ≤ m → gL s' 57 (5 * o + t) = lI (swp x.1 i q o t) := fun t ht => by
          have := e' o t ho ht
          dsimp only at this
          rw [if_neg (Nat.lt_irrefl _)] at this
          exact this
        have ei : ∀ t, t ≤ m → gL s' 57 (5 * i + t) = lI (swp x.1 i q i t) := fun t ht => by
          have := e' i t (by omega) ht
          dsimp only at this
          by_cases g : i < o
          · rw [if_pos g] at this
            unfold stpB at this
            rw [if_pos rfl] at this
            exact this
          · rw [if_neg g] at this; exact this
        unfold w_Cr_eliminate_L125
        refine ⟨fun z => absurd z (nI_ge ho (by omega)), fun _ => ?_⟩
        rw [X_r56_1 k', X_k57 k', X_n57 k', show (5 : Int32) = nI 5 from rfl, pk_mul, nI_add, show o * 5 + i = 5 * o + i from by omega, ix_nI (n := 5 * o + i) (by omega), eo i (by omega)]
        refine ⟨X_k56 k', rfl, vp_in_nI (by omega) (by omega), ?_⟩
        by_cases hne : o = i
        · -- the line that clears stays
          refine ⟨1, ?_⟩
          unfold w_Cr_eliminate_L147
          rw [hs', nI_1 o]
          have nx := ih s' ⟨f', fun o' t ho' ht => by
            have := e' o' t ho' ht
            dsimp only at this ⊢
            rw [this]
            by_cases g : o' < o
            · rw [if_pos g, if_pos (by omega)]
            · rw [if_neg g]
              by_cases g2 : o' < o + 1
              · rw [if_pos g2]
                unfold stpB
                rw [if_pos (by omega)]
              · rw [if_neg g2]⟩
          exact ⟨X_k56 k', fun _ => nx, fun _ => ⟨fun _ => nx, fun y => absurd (by rw [hne]) y⟩⟩
        · refine loop_0 (fun a' t s2 => w_Cr_eliminate_L147 Q (w_Cr_eliminate_L125 Q 56 (nI i) (nI lines) (lI (swp x.1 i q i i)) a) 56 (nI i) (nI lines) (lI (swp x.1 i q i i)) (nI o) (lI (swp x.1 i q o i)) a' (nI t) s2) (fun t s2 => Fx [] [57] s' s2 ∧ ∀ jj, gL s2 57 jj = if 5 * o ≤ jj ∧ jj < 5 * o + t then lI (stpB (swp x.1 i q) x.2 i o (jj - 5 * o)) else gL s' 57 jj) (m + 1) s' ⟨fx_refl _ _ _, fun jj => by rw [if_neg (by omega)]⟩ ?_ ?_
          · rintro a' s2 ⟨f2, e2⟩
            have k2 := fx_XS f2 k'
            unfold w_Cr_eliminate_L147
            rw [show gI s2 56 4 = nI m from by rw [fx_I f2 (x := 56) (by decide)]; exact hs', nI_1 o]
            refine ⟨X_k56 k2, fun _ => ih s2 ⟨fx_trans f' f2, fun o' t ho' ht => ?_⟩, fun z => absurd (nI_lt (by omega) (by omega)) z⟩
            dsimp only
            rw [e2]
            by_cases g1 : o' = o
            · rw [if_pos (by omega), show 5 * o' + t - 5 * o = t from by omega, if_pos (by omega), g1]
            · rw [if_neg (by omega)]
              have := e' o' t ho' ht
              dsimp only at this
              rw [this]
              by_cases g2 : o' < o
              · rw [if_pos g2, if_pos (by omega)]
              · rw [if_neg g2, if_neg (by omega)]
          · rintro a' t s2 ht ⟨f2, e2⟩ ih2
            have k2 := fx_XS f2 k'
            have m1 := mulA (sw i i (by omega) (by omega)) (sw o t ho (by omega))
            have m2 := mulA (sw o i ho (by omega)) (sw i t (by omega) (by omega))
            have w1 := sw i i (by omega) (by omega)
            have w2 := sw o t ho (by omega)
            have w3 := sw o i ho (by omega)
            have w4 := sw i t (by omega) (by omega)
            unfold w_Cr_eliminate_L147
            rw [show gI s2 56 4 = nI m from by rw [fx_I f2 (x := 56) (by decide)]; exact hs', nI_1 o]
            refine ⟨X_k56 k2, fun z => absurd z (nI_nlt (by omega) (by omega)), fun _ => ⟨fun z => absurd ((nI_eq (by omega) (by omega)).mp z) hne, fun _ => ?_⟩⟩
            rw [X_r56_1 k2, X_k57 k2, X_n57 k2, show gL s2 56 5 = lI x.2 from by rw [fx_L f2 (x := 56) (by decide)]; exact hd', show (5 : Int32) = nI 5 from rfl, pk_mul, pk_mul, nI_add, nI_add, nI_1 t, show o * 5 + t = 5 * o + t from by omega, show i * 5 + t = 5 * i + t from by omega, ix_nI (n := 5 * o + t) (by omega), ix_nI (n := 5 * i + t) (by omega), e2, e2, if_neg (by omega), if_neg (by omega), eo t (by omega), ei t (by omega), lI_mul (by omega) (by omega) (by omega), lI_mul (by omega) (by omega) (by omega), lI_sub (by omega) (by omega), lI_div (c := stpB (swp x.1 i q) x.2 i o t) d0 (by omega) (by omega) (ex o t (by omega) hne (by omega)).symm]
            refine ⟨rfl, vp_in_nI (by omega) (by omega), vp_in_nI (by omega) (by omega), fun y => absurd ((lI_e0 (by omega)).mp y) d0, ih2 _ ⟨fx_trans f2 (fx_sL _ _ (by simp)), fun jj => ?_⟩⟩
            rw [gL_sL]
            by_cases g1 : jj = 5 * o + t
            · rw [if_pos ⟨rfl, g1⟩, if_pos (by omega), show jj - 5 * o = t from by omega]
            · rw [if_neg (fun y => g1 y.2), e2]
              by_cases g2 : 5 * o ≤ jj ∧ jj < 5 * o + t
              · rw [if_pos g2, if_pos (by omega)]
              · rw [if_neg g2, if_neg (by omega)]
    · rintro a t s ht ⟨fs, es⟩ ih
      have ks := fx_XS fs k
      have hss : gI s 56 4 = nI m := by rw [fx_I fs (x := 56) (by decide)]; exact hs
      have ei := es i t (by omega) (by omega)
      have eq := es q t lt (by omega)
      rw [if_neg (Nat.lt_irrefl _)] at ei eq
      unfold w_Cr_eliminate_L47
      rw [hss]
      refine ⟨X_k56 ks, fun z => absurd z (nI_nlt (by omega) (by omega)), fun _ => ?_⟩
      rw [X_r56_1 ks, X_k57 ks, X_n57 ks, show (5 : Int32) = nI 5 from rfl, pk_mul, pk_mul, nI_add, nI_add, nI_1, show i * 5 + t = 5 * i + t from by omega, show q * 5 + t = 5 * q + t from by omega, ix_nI (n := 5 * i + t) (by omega), ix_nI (n := 5 * q + t) (by omega), ei, eq]
      refine ⟨rfl, vp_in_nI (by omega) (by omega), vp_in_nI (by omega) (by omega), ih _ ⟨fx_trans fs (fx_trans (fx_sL _ _ (by simp)) (fx_sL _ _ (by simp))), fun o t' ho ht' => ?_⟩⟩
      have e0 := es o t' ho ht'
      rw [gL_sL, gL_sL]
      by_cases g1 : t' = t
      · rw [g1, if_pos (show t < t + 1 by omega)]
        unfold swp
        by_cases g2 : o = q
        · rw [if_pos ⟨rfl, by rw [g2]⟩]
          by_cases g3 : o = i
          · rw [if_pos g3, ← g2, g3]
          · rw [if_neg g3, if_pos g2]
        · rw [if_neg (fun y => by have := y.2; omega)]
          by_cases g3 : o = i
          · rw [if_pos ⟨rfl, by rw [g3]⟩, if_pos g3]
          · rw [if_neg (fun y => by have := y.2; omega), if_neg g3, if_neg g2]
            rw [g1, if_neg (Nat.lt_irrefl _)] at e0
            exact e0
      · rw [if_neg (fun y => by have := y.2; omega), if_neg (fun y => by have := y.2; omega), e0]
        by_cases g2 : t' < t
        · rw [if_pos g2, if_pos (by omega)]
        · rw [if_neg g2, if_neg (by omega)]
  unfold w_Cr_eliminate
  refine loop_0 (fun a o s => w_Cr_eliminate_L2 Q 56 (nI i) (nI lines) a (nI (i + o)) s) (fun o s => s = h) (q - i) h rfl ?_ ?_
  · rintro a s rfl
    unfold w_Cr_eliminate_L2
    rw [show i + (q - i) = q from by omega]
    refine ⟨fun _ => rest, fun z => ?_⟩
    have lt : q < lines := Nat.lt_of_not_le (fun y => z (nI_le y (by omega)))
    have w := xb q i (by omega) (by omega)
    rw [X_r56_1 k, X_k57 k, X_n57 k, show (5 : Int32) = nI 5 from rfl, pk_mul, nI_add, show q * 5 + i = 5 * q + i from by omega, ix_nI (n := 5 * q + i) (by omega), cl q i lt (by omega), lI_e0 (by omega)]
    exact ⟨X_k56 k, rfl, vp_in_nI (by omega) (by omega), fun y => absurd y (nz lt), fun _ => rest⟩
  · rintro a o s ho rfl ih
    have w := xb (i + o) i (by omega) (by omega)
    unfold w_Cr_eliminate_L2
    refine ⟨fun z => absurd z (nI_ge (by omega) (by omega)), fun _ => ?_⟩
    rw [X_r56_1 k, X_k57 k, X_n57 k, show (5 : Int32) = nI 5 from rfl, pk_mul, nI_add, nI_1, show (i + o) * 5 + i = 5 * (i + o) + i from by omega, ix_nI (n := 5 * (i + o) + i) (by omega), cl (i + o) i (by omega) (by omega), lI_e0 (by omega)]
    exact ⟨X_k56 k, rfl, vp_in_nI (by omega) (by omega), fun _ => ih s rfl, fun y => absurd (lo (i + o) (by omega) (by omega)) y⟩
