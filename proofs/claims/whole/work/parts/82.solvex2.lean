/-! The class's corners: a set is solved, all of it -/
variable {h : Hp}
/-- a solution stands -/
def SO (f : Nat → Int32) (S : Nat → Bool) (n : Nat) (w : (Nat → Int) × Int) (h : Hp) : Prop := MB S n h ∧ gL h 56 5 = lI w.2 ∧ ∀ i, i < cnS S n → gL h 57 (5 * i + cnS S n) = lI (w.1 (mb S n i))
theorem t_Cr_isAboveNothing {m : Nat} {x : Mx × Int} {lines : Nat} {Q : Bool → Hp → Prop} (k : XS h) (hm : m ≤ 4) (hml : m ≤ lines) (hs : gI h 56 4 = nI m) (hd : gL h 56 5 = lI x.2) (cl : CL x.1 lines m h) (xb : ∀ o t, o < 4 → t < 5 → (x.1 o t).natAbs ≤ 3840000) (db : x.2.natAbs ≤ 3840000)
    (hq0 : ∀ h', (∃ i, i < m ∧ ¬ 0 < byY x m i) → Fx [] [56, 57] h h' → (∀ k, k ≠ 5 → gL h' 56 k = gL h 56 k) → Q false h') (hq1 : ∀ h', (∀ i, i < m → 0 < byY x m i) → Fx [] [56, 57] h h' → (∀ k, k ≠ 5 → gL h' 56 k = gL h 56 k) → gL h' 56 5 = lI (byZ x) → (∀ i, i < m → gL h' 57 (5 * i + m) = lI (byY x m i)) → Q true h') : w_Cr_isAboveNothing 56 h Q := by
  have main : ∀ sg : Int, sg = (if x.2 < 0 then -1 else 1) → w_Cr_isAboveNothing_B16 Q 56 (lI sg) h := by
    intro sg hsg
    have s1 : sg.natAbs = 1 := by rw [hsg]; split <;> decide
    have mz := mulA (a := x.2) (b := sg) (A := 3840000) (B := 1) db (by omega)
    unfold w_Cr_isAboveNothing_B16
    rw [hd, lI_mul (by omega) (by omega) (by omega)]
    refine ⟨X_k56 k, ?_⟩
    have ez : x.2 * sg = byZ x := by unfold byZ; rw [hsg, Int.mul_comm]
    rw [ez]
    refine loop_0 (fun a i y => w_Cr_isAboveNothing_L29 Q 56 (lI sg) a (nI i) y) (fun i y => Fx [] [56, 57] h y ∧ (∀ kk, kk ≠ 5 → gL y 56 kk = gL h 56 kk) ∧ gL y 56 5 = lI (byZ x) ∧ (∀ i', i' < i → gL y 57 (5 * i' + m) = lI (byY x m i') ∧ 0 < byY x m i') ∧ ∀ i', i ≤ i' → i' < m → gL y 57 (5 * i' + m) = lI (x.1 i' m)) m _ ⟨fx_sL _ _ (by simp), fun kk hk => by rw [gL_sL, if_neg (fun y => hk y.2)], by rw [gL_sL, if_pos ⟨rfl, rfl⟩], fun i' hi' => absurd hi' (Nat.not_lt_zero _), fun i' _ hi' => by rw [gL_sL, if_neg (fun y => absurd y.1 (by decide))]; exact cl i' m (by omega) (Nat.le_refl _)⟩ ?_ ?_
    · rintro a y ⟨fy, ky, e5, e1, e2⟩
      unfold w_Cr_isAboveNothing_L29
      rw [show gI y 56 4 = nI m from by rw [fx_I fy (x := 56) (by decide)]; exact hs]
      exact ⟨X_k56 (fx_XS fy k), fun _ => hq1 y (fun i hi => (e1 i hi).2) fy ky e5 (fun i hi => (e1 i hi).1), fun z => absurd (Int32.le_refl _) z⟩
    · rintro a i y hi ⟨fy, ky, e5, e1, e2⟩ ih
      have kk := fx_XS fy k
      have xi := xb i m (by omega) (by omega)
      have mi := mulA (a := x.1 i m) (b := sg) (A := 3840000) (B := 1) xi (by omega)
      have ey : x.1 i m * sg = byY x m i := by unfold byY; rw [hsg, Int.mul_comm]
      unfold w_Cr_isAboveNothing_L29
      rw [show gI y 56 4 = nI m from by rw [fx_I fy (x := 56) (by decide)]; exact hs]
      refine ⟨X_k56 kk, fun z => absurd z (nI_ge hi (by omega)), fun _ => ?_⟩
      rw [X_r56_1 kk, X_k57 kk, X_n57 kk, gI_sL, show gI y 56 4 = nI m from by rw [fx_I fy (x := 56) (by decide)]; exact hs, show (5 : Int32) = nI 5 from rfl, pk_mul, nI_add, nI_1, show i * 5 + m = 5 * i + m from by omega, ix_nI (n := 5 * i + m) (by omega), e2 i (Nat.le_refl _) hi, lI_mul (by omega) (by omega) (by omega), ey, gL_sL, if_pos ⟨rfl, rfl⟩]
      rw [ey] at mi
      have f1 : Fx [] [56, 57] h (sL y 57 (5 * i + m) (lI (byY x m i))) := fx_trans fy (fx_sL _ _ (by simp))
      have k1 : ∀ kk, kk ≠ 5 → gL (sL y 57 (5 * i + m) (lI (byY x m i))) 56 kk = gL h 56 kk := fun kk hk => by
        rw [gL_sL, if_neg (fun y => absurd y.1 (by decide))]; exact ky kk hk
      have lt : (0 : Int64) < lI (byY x m i) ↔ 0 < byY x m i := by
        rw [← Int64.not_le, lI_le0 (by omega)]
        omega
      refine ⟨rfl, vp_in_nI (by omega) (by omega), vp_in_nI (by omega) (by omega), fun z => ih _ ⟨f1, k1, ?_, fun i' hi' => ?_, fun i' h1 h2 => ?_⟩, fun z => hq0 _ ⟨i, hi, fun g => z (lt.mpr g)⟩ f1 k1⟩
      · rw [gL_sL, if_neg (fun y => absurd y.1 (by decide))]; exact e5
      · by_cases g : i' = i
        · rw [gL_sL, if_pos ⟨rfl, by rw [g]⟩, g]; exact ⟨rfl, lt.mp z⟩
        · rw [gL_sL, if_neg (fun y => by have := y.2; omega)]; exact e1 i' (by omega)
      · rw [gL_sL, if_neg (fun y => by have := y.2; omega)]; exact e2 i' (by omega) h2
  unfold w_Cr_isAboveNothing
  rw [hd, lI_0le (by omega)]
  exact ⟨X_k56 k, fun z => main 1 (by rw [if_neg (by omega)]), fun z => by
    have := main (-1) (by rw [if_pos (by omega)])
    rw [show lI (-1) = -1 from by decide] at this
    exact this⟩
theorem t_Cr_solve {f : Nat → Int32} {r n s lines : Nat} {Q : Bool → Hp → Prop} (c0 : CN f r n h) (hs : s < 2 ^ n) (hl : lines = 3 ∨ lines = 4)
    (hq0 : ∀ h', Fx [56, 58] [56, 57] h h' → (∀ k, k ≠ 4 → gI h' 56 k = gI h 56 k) → (∀ k, k ≠ 5 → gL h' 56 k = gL h 56 k) → (cnS (bS s) n ≤ lines → barS f (if lines = 4 then fun _ => 0 else bN f) (bS s) n lines = none) → Q false h')
    (hq1 : ∀ h' w, Fx [56, 58] [56, 57] h h' → (∀ k, k ≠ 4 → gI h' 56 k = gI h 56 k) → (∀ k, k ≠ 5 → gL h' 56 k = gL h 56 k) → cnS (bS s) n ≤ lines → barS f (if lines = 4 then fun _ => 0 else bN f) (bS s) n lines = some w → SO f (bS s) n w h' → Q true h') : w_Cr_solve 56 (nI s) (nI lines) h Q := by
  have hn := c0.2.1.2.2.2.2.2
  have p8 := pow8 hn
  have bb : ∀ o, o < 3 → ((if lines = 4 then fun _ => 0 else bN f) o : Int).natAbs ≤ 20 := fun o ho => by
    split
    · exact Nat.zero_le _
    · exact bN_bd c0.2.2.2.2.1 o ho
  have M3b := M3_bd (S := bS s) c0.2.2.2.1 bb
  have c9 : cnS (bS s) 9 = cnS (bS s) n := by
    rw [cnS_f, cnS_8 hn hs]
    exact Nat.testBit_lt_two_pow (Nat.lt_of_lt_of_le (show s < 256 by omega) (by decide))
  have cl0 := cnS_le (bS s) n
  unfold w_Cr_solve
  refine t_bitCount (by omega) ?_
  rw [c9]
  refine ⟨fun z => ⟨X_k56 c0.1, ?_⟩, fun z => hq0 h (fx_refl _ _ _) (fun _ _ => rfl) (fun _ _ => rfl) (fun g => absurd (nI_le g (by omega)) z)⟩
  have le := (nI_leI (by omega) (by omega)).mp z
  refine t_Cr_fill c0 (by omega) hl le (fun h3 f3 k3 m3 cl3 => ?_)
  have c3 := CN_fx c0 f3 (by decide) (by decide)
  revert M3b cl3
  generalize hMM : M3 f (if lines = 4 then fun _ => 0 else bN f) (bS s) n = M
  intro M3b cl3
  have bsE : barS f (if lines = 4 then fun _ => 0 else bN f) (bS s) n lines = match bar M lines (cnS (bS s) n) with
    | none => none
    | some x => some (colY (bS s) n (byY x (cnS (bS s) n)), byZ x) := by
    unfold barS
    rw [hMM]
    rfl
  have f30 : Fx [56, 58] [56, 57] h h3 := fx_mono f3 (by simp) (by simp)
  have k30 : ∀ k, k ≠ 5 → gL h3 56 k = gL h 56 k := fun k _ => by rw [fx_L f3 (x := 56) (by decide)]
  refine ⟨X_k56 c3.1, ?_⟩
  refine loop_0 (fun a i y => w_Cr_solve_L23 Q 56 (nI lines) a (nI i) y) (fun i y => Fx [] [56, 57] h3 y ∧ (∀ k, k ≠ 5 → gL y 56 k = gL h3 56 k) ∧ ∃ x, barR M lines i = some x ∧ gL y 56 5 = lI x.2 ∧ CL x.1 lines (cnS (bS s) n) y) (cnS (bS s) n) _ ⟨fx_sL _ _ (by simp), fun k hk => by rw [gL_sL, if_neg (fun y => hk y.2)], (M, 1), rfl, by rw [gL_sL, if_pos ⟨rfl, rfl⟩]; rfl, fun o t ho ht => by rw [gL_sL, if_neg (fun y => absurd y.1 (by decide))]; exact cl3 o t (by omega) ht⟩ ?_ ?_
  · rintro a y ⟨fy, ky, x, hx, ed, cx⟩
    have ks := fx_XS fy c3.1
    have fh : Fx [56, 58] [56, 57] h y := fx_trans f30 (fx_mono fy (by simp) (by simp))
    have kI : ∀ k, k ≠ 4 → gI y 56 k = gI h 56 k := fun k hk => by rw [fx_I fy (x := 56) (by decide)]; exact k3 k hk
    have kL : ∀ k, k ≠ 5 → gL y 56 k = gL h 56 k := fun k hk => (ky k hk).trans (k30 k hk)
    have hs4 : gI y 56 4 = nI (cnS (bS s) n) := by rw [fx_I fy (x := 56) (by decide)]; exact m3.1
    have bi := barR_sp (m := cnS (bS s) n) (by omega) (by omega) M3b _ (Nat.le_refl _) le x hx
    obtain ⟨xb, db⟩ := BI_bd bi (by omega)
    unfold w_Cr_solve_L23
    rw [hs4]
    refine ⟨X_k56 ks, fun _ => ?_, fun z => absurd (Int32.le_refl _) z⟩
    have bad : ¬ ((∀ o, o < lines → cnS (bS s) n ≤ o → x.1 o (cnS (bS s) n) = 0) ∧ ∀ i, i < cnS (bS s) n → 0 < byY x (cnS (bS s) n) i) → barS f (if lines = 4 then fun _ => 0 else bN f) (bS s) n lines = none := fun g => by
      rw [bsE]
      unfold bar
      rw [hx]
      dsimp only
      rw [if_neg (show ¬ ((∀ o, o < lines → cnS (bS s) n ≤ o → x.1 o (cnS (bS s) n) = 0) ∧ ∀ i, i < cnS (bS s) n → 0 < (if x.2 < 0 then -1 else 1) * x.1 i (cnS (bS s) n)) from g)]
    refine loop_0 (fun a o y' => w_Cr_solve_L53 Q 56 (nI lines) a (nI (cnS (bS s) n + o)) y') (fun o y' => y' = y ∧ ∀ o', cnS (bS s) n ≤ o' → o' < cnS (bS s) n + o → x.1 o' (cnS (bS s) n) = 0) (lines - cnS (bS s) n) y ⟨rfl, fun o' h1 h2 => by omega⟩ ?_ ?_
    · rintro a y' ⟨rfl, hz⟩
      unfold w_Cr_solve_L53
      rw [show cnS (bS s) n + (lines - cnS (bS s) n) = lines from by omega]
      refine ⟨fun _ => ⟨X_k56 ks, t_Cr_isAboveNothing ks (by omega) le hs4 ed cx xb db (fun h' hno f' k' => ?_) (fun h' hyes f' k' e5 ey => ?_)⟩, fun z => absurd (Int32.le_refl _) z⟩
      · refine hq0 h' (fx_trans fh (fx_mono f' (by simp) (by simp))) (fun k hk => by rw [fx_I f' (x := 56) (by decide)]; exact kI k hk) (fun k hk => (k' k hk).trans (kL k hk)) (fun _ => bad (fun g => ?_))
        obtain ⟨i, hi, hno⟩ := hno
        exact hno (g.2 i hi)
      · have eb : bar M lines (cnS (bS s) n) = some x := by
          unfold bar
          rw [hx]
          dsimp only
          rw [if_pos ⟨fun o ho hmo => hz o hmo (by omega), hyes⟩]
        rw [eb] at bsE
        refine hq1 h' _ (fx_trans fh (fx_mono f' (by simp) (by simp))) (fun k hk => by rw [fx_I f' (x := 56) (by decide)]; exact kI k hk) (fun k hk => (k' k hk).trans (kL k hk)) le bsE ⟨⟨?_, ?_⟩, e5, fun i hi => ?_⟩
        · rw [fx_I f' (x := 56) (by decide)]; exact hs4
        · rw [fx_I f' (x := 58) (by decide), fx_I fy (x := 58) (by decide)]; exact m3.2
        · rw [ey i hi]
          dsimp only
          rw [colY_mb hi]
    · rintro a o y' ho ⟨rfl, hz⟩ ih
      have xo := xb (cnS (bS s) n + o) (cnS (bS s) n) (by omega) (by omega)
      unfold w_Cr_solve_L53
      refine ⟨fun z => absurd z (nI_ge (by omega) (by omega)), fun _ => ?_⟩
      rw [hs4, X_r56_1 ks, X_k57 ks, X_n57 ks, show (5 : Int32) = nI 5 from rfl, pk_mul, nI_add, nI_1, show (cnS (bS s) n + o) * 5 + cnS (bS s) n = 5 * (cnS (bS s) n + o) + cnS (bS s) n from by omega, ix_nI (n := 5 * (cnS (bS s) n + o) + cnS (bS s) n) (by omega), cx _ _ (by omega) (Nat.le_refl _), lI_e0 (by omega)]
      refine ⟨X_k56 ks, rfl, vp_in_nI (by omega) (by omega), fun z => ih y' ⟨rfl, fun o' h1 h2 => ?_⟩, fun z => hq0 y' fh kI kL (fun _ => bad (fun g => z (g.1 _ (by omega) (by omega))))⟩
      by_cases g : o' = cnS (bS s) n + o
      · rw [g]; exact z
      · exact hz o' h1 (by omega)
  · rintro a i y hi ⟨fy, ky, x, hx, ed, cx⟩ ih
    have ks := fx_XS fy c3.1
    have fh : Fx [56, 58] [56, 57] h y := fx_trans f30 (fx_mono fy (by simp) (by simp))
    have hs4 : gI y 56 4 = nI (cnS (bS s) n) := by rw [fx_I fy (x := 56) (by decide)]; exact m3.1
    have bi := barR_sp (m := cnS (bS s) n) (by omega) (by omega) M3b i (by omega) (by omega) x hx
    unfold w_Cr_solve_L23
    rw [hs4, nI_1]
    refine ⟨X_k56 ks, fun z => absurd z (nI_ge hi (by omega)), fun _ => t_Cr_eliminate ks bi le (by omega) hi hs4 ed cx (fun hno => ⟨fun _ => ?_, fun z => absurd rfl z⟩) (fun h' hyes f' k' e5 cl' => ⟨fun z => absurd z (by decide), fun _ => ih h' ⟨fx_trans fy f', fun k hk => (k' k hk).trans (ky k hk), (stpB (swp x.1 i (fpv x.1 i lines)) x.2 i, swp x.1 i (fpv x.1 i lines) i i), ?_, e5, cl'⟩⟩)⟩
    · refine hq0 y fh (fun k hk => by rw [fx_I fy (x := 56) (by decide)]; exact k3 k hk) (fun k hk => (ky k hk).trans (k30 k hk)) (fun _ => ?_)
      have e1 : barR M lines (i + 1) = none := by
        rw [barR, hx]
        dsimp only
        rw [if_neg hno]
      have mono : ∀ j, barR M lines (i + 1 + j) = none := by
        intro j
        induction j with
        | zero => exact e1
        | succ j ih => rw [← Nat.add_assoc, barR, ih]
      have := mono (cnS (bS s) n - (i + 1))
      rw [show i + 1 + (cnS (bS s) n - (i + 1)) = cnS (bS s) n from by omega] at this
      rw [bsE]
      unfold bar
      rw [this]
    · rw [barR, hx]
      dsimp only
      rw [if_pos hyes]
