/-! The class's order: the table, the walk; what is kept of the best plan -/
variable {h : Hp}
theorem sd_le (p : List Nat) (N : Nat) : ∀ k, sd p N k ≤ sD p k := by
  intro k
  induction k with
  | zero => exact Nat.le_refl _
  | succ k ih =>
    have := tk_le p N k
    show sd p N k + tk p N k ≤ sD p k + p.getD k 0
    omega
theorem sD_mono (p : List Nat) {a b : Nat} (h : a ≤ b) : sD p a ≤ sD p b := by
  induction b with
  | zero => rw [show a = 0 from by omega]; exact Nat.le_refl _
  | succ b ih =>
    by_cases e : a = b + 1
    · rw [e]; exact Nat.le_refl _
    · have := ih (by omega)
      rw [sD]
      omega
theorem stN_le {f : Nat → Int32} {r n t : Nat} {p : List Nat} (hr : r ≤ 3) (hF : FB f n) (hN : NB f) (hp : p ∈ PL n t) (ht : t ≤ 12) (N : Nat) : stN f r n p (nI t) N ≤ 999999999 ∧ 0 ≤ stN f r n p (nI t) N := by
  have hpm := PL_mem hp
  have hs12 : ∀ k, k ≤ n → sd p N k ≤ 12 := fun k hk => by
    have h1 := sd_le p N k
    have h2 := sD_mono p hk
    have h3 := sD_len p
    rw [hpm.1] at h3
    omega
  have sb : ∀ j, j < 3 → ∀ k, k ≤ n → ((sm (fun c => nI (tk p N c) * f (3 * c + j)) k).toInt).natAbs ≤ 5 * sd p N k := by
    intro j hj k
    induction k with
    | zero => intro _; exact Nat.zero_le _
    | succ k ih =>
      intro hk
      have h1 := ih (by omega)
      have h2 := hs12 (k + 1) hk
      have h3 : sd p N (k + 1) = sd p N k + tk p N k := rfl
      have h4 := hF k j (by omega) hj
      have h5 := mul_bd (tk p N k) h4.1 h4.2
      have e1 : (nI (tk p N k)).toInt = (tk p N k : Int) := nI_toInt (by omega)
      have e2 : (nI (tk p N k) * f (3 * k + j)).toInt = (tk p N k : Int) * (f (3 * k + j)).toInt := by rw [Jvm.Kit.i32_mul (by rw [e1]; omega) (by rw [e1]; omega), e1]
      rw [sm, Jvm.Kit.i32_add (by rw [e2]; omega) (by rw [e2]; omega), e2]
      omega
  have kb : ∀ k, k ≤ n → sm (fun c => nI (tk p N c)) k = nI (sd p N k) := by
    intro k
    induction k with
    | zero => intro _; rfl
    | succ k ih =>
      intro hk
      rw [sm, ih (by omega), nI_add]
      rfl
  refine ⟨?_, mx_nn _ _⟩
  unfold stN
  rw [mx_le]
  refine ⟨by decide, fun j hj => ?_⟩
  have h1 := sb j (by omega) n (Nat.le_refl _)
  have h2 := hs12 n (Nat.le_refl _)
  have h3 := hN j (by omega)
  rw [kb n (Nat.le_refl _), Int32.le_iff_toInt_le, stray1 (z := 60) ht h2 (by omega) (by omega) (by omega)]
  have m1 := mulA (a := (t : Int)) (b := (sm (fun c => nI (tk p N c) * f (3 * c + j)) n).toInt) (A := 12) (B := 60) (by omega) (by omega)
  have m2 := mulA (a := (sd p N n : Int)) (b := (f (32 + j)).toInt) (A := 12) (B := 20) (by omega) (by omega)
  have e : (999999999 : Int32).toInt = 999999999 := rfl
  rw [e]
  omega
theorem gt_comm (a b : Int32) : gt a b = gt b a := by
  rw [← Int32.toInt_inj, gt_toInt, gt_toInt]
  omega
/-- the table's entry as the class works it out -/
theorem vl_cls {f : Nat → Int32} {r n N t : Nat} {p : List Nat} {v : Int32} {g : Nat → Int32} (h0 : 0 ≤ stN f r n p (nI t) N) (hN : N < wt p n) (h1 : (∀ c, c < n → ¬ tk p N c < p.getD c 0) → v = -1) (h2 : (∃ c, c < n ∧ tk p N c < p.getD c 0) → v = lsl p g N 1000000000 n) : gt (stN f r n p (nI t) N) v = vlN f r n p (nI t) g N := by
  unfold vlN
  rw [gt_comm]
  by_cases e : ∃ c, c < n ∧ tk p N c < p.getD c 0
  · have ne : ¬ N + 1 = wt p n := fun g1 => by
      obtain ⟨c, hc, hx⟩ := e
      have := tk_lt hx hc hN
      have := wt_pos p c
      omega
    rw [if_neg ne, h2 e]
  · have none_ : ∀ c, c < n → ¬ tk p N c < p.getD c 0 := fun c hc y => e ⟨c, hc, y⟩
    have eq : N + 1 = wt p n := by
      by_cases g1 : N + 1 = wt p n
      · exact g1
      · exact absurd (tk_ex (by omega)) e
    have l0 : ∀ k, k ≤ n → lsl p g N 0 k = 0 := by
      intro k
      induction k with
      | zero => intro _; rfl
      | succ k ih2 =>
        intro hk
        show (if tk p N k < p.getD k 0 then _ else lsl p g N 0 k) = _
        rw [if_neg (none_ k (by omega))]
        exact ih2 (by omega)
    rw [if_pos eq, l0 n (Nat.le_refl _), h1 none_]
    rw [← Int32.toInt_inj, gt_toInt, gt_toInt]
    rw [Int32.le_iff_toInt_le, show (0 : Int32).toInt = 0 from rfl] at h0
    have e1 : (-1 : Int32).toInt = -1 := rfl
    have e2 : (0 : Int32).toInt = 0 := rfl
    omega
theorem t_Op_firstWithin {f : Nat → Int32} {r n N : Nat} {p : List Nat} {g : Nat → Int32} {Q : Int32 → Hp → Prop} (c0 : CN f r n h) (o : OW n n p h) (hN : N < wt p n) (hg : ∀ M, M < wt p n → gI h 55 M = g M) (h13 : gI h 50 13 = g 0) (hex : ∃ c, c < n ∧ fcP p g N c = true) (hq : Q (nI (fst1 (fcP p g N) n 0)) h) : w_Op_firstWithin 50 (nI N) h Q := by
  have m := c0.1
  have hn := c0.2.1.2.2.2.2.2
  have hW := o.2.2.2.1
  unfold w_Op_firstWithin
  have key : ∀ k c, c + k = n → (∃ x, c ≤ x ∧ x < n ∧ fcP p g N x = true) → fst1 (fcP p g N) k c = fst1 (fcP p g N) n 0 → w_Op_firstWithin_L2 Q 50 (nI N) (k + 1) (nI c) h := by
    intro k
    induction k with
    | zero => rintro c hc ⟨x, h1, h2, -⟩; omega
    | succ k ih =>
      rintro c hc ⟨x, h1, h2, h3⟩ he
      have oc := o.2.2.1 c
      have tl := tk_le p N c
      have wp := wt_pos p c
      have wm := wt_mono p (show c ≤ n by omega)
      have nx : fcP p g N c = false → w_Op_firstWithin_L2 Q 50 (nI N) (k + 1) (nI (c + 1)) h := fun e => by
        refine ih (c + 1) (by omega) ⟨x, ?_, h2, h3⟩ ?_
        · by_cases g1 : x = c
          · rw [g1, e] at h3; cases h3
          · omega
        · rw [← he]
          show _ = if fcP p g N c = true then c else fst1 (fcP p g N) k (c + 1)
          rw [if_neg (by rw [e]; decide)]
      unfold w_Op_firstWithin_L2
      rw [X_r50_0 m, c0.2.1.2.2.1]
      refine ⟨X_k50 m, c0.2.1.1.1, fun z => absurd z (nI_ge (by omega) (by omega)), fun _ => t_Op_takenAt m o hn (by omega) (by omega) ⟨X_k50 m, ?_⟩⟩
      rw [X_r50_2 m, X_r50_3 m, X_r50_6 m, X_k51 m, X_k52 m, X_k55 m, X_n51 m, X_n52 m, X_n55 m, ix_nI (n := c) (by omega), o.1 c (by omega), o.2.1 c (by omega), nI_add, nI_1, h13]
      refine ⟨rfl, vp_in_nI (by omega) (by omega), fun z => nx ?_, fun z => ?_⟩
      · have z := (nI_leI (by omega) (by omega)).mp z
        unfold fcP
        rw [decide_eq_false (by omega), Bool.false_and]
      · have z : tk p N c < p.getD c 0 := Nat.lt_of_not_le (fun y => z (nI_le y (by omega)))
        have lt := tk_lt z (show c < n by omega) hN
        rw [ix_nI (n := N + wt p c) (by omega), hg _ lt]
        refine ⟨rfl, vp_in_nI (by omega) (by omega), rfl, vp_in_nI (by omega) (by omega), fun y => nx ?_, fun y => ?_⟩
        · unfold fcP
          rw [decide_eq_false (p := g (N + wt p c) ≤ g 0) (Int32.not_le.mpr y), Bool.and_false]
        · have ft : fcP p g N c = true := by
            unfold fcP
            rw [decide_eq_true z, decide_eq_true (Int32.not_lt.mp y)]
            rfl
          have e2 : fst1 (fcP p g N) n 0 = c := by
            rw [← he]
            show (if fcP p g N c = true then c else _) = c
            rw [if_pos ft]
          rw [e2] at hq
          exact hq
  obtain ⟨c, hc, hx⟩ := hex
  exact ⟨n + 1, key n 0 (by omega) ⟨c, Nat.zero_le _, hc, hx⟩ rfl⟩
theorem t_Op_findOrder {f : Nat → Int32} {r n t : Nat} {p : List Nat} {Q : Hp → Prop} (c0 : CN f r n h) (hp : p ∈ PL n t) (ht : t ≤ 12) (ho : ∀ j, j < n → gI h 51 j = nI (p.getD j 0)) (hT : gI h 50 12 = nI t) (hq : ∀ h', Fx [50, 52, 53, 54, 55] [] h h' → gI h' 50 8 = gI h 50 8 → gI h' 50 9 = gI h 50 9 → gI h' 50 10 = gI h 50 10 → gI h' 50 11 = gI h 50 11 → gI h' 50 12 = gI h 50 12 → gI h' 50 13 = sfT f r n p (nI t) 0 → (∀ i, i < t → gI h' 53 i = nI (wlk p (sfT f r n p (nI t)) n (i + 1)).2) → Q h') : w_Op_findOrder 50 h Q := by
  have m := c0.1
  have hn := c0.2.1.2.2.2.2.2
  have hr := c0.2.1.2.2.2.2.1
  have hpm := PL_mem hp
  have hW := wt_le hp hn ht
  have h12 : ∀ j, p.getD j 0 ≤ 12 := fun j => by
    have := getD_le_sum p j
    omega
  have st := stN_le (r := r) hr c0.2.2.2.1 c0.2.2.2.2.1 hp ht
  have Wp := wt_pos p n
  unfold w_Op_findOrder
  refine ⟨X_k50 m, ?_⟩
  refine loop_0 (fun x c y => w_Op_findOrder_L7 Q 50 x (nI c) y) (fun c y => Fx [50, 52] [] h y ∧ (∀ k, k ≠ 7 → gI y 50 k = gI h 50 k) ∧ gI y 50 7 = nI (wt p c) ∧ ∀ j, j < c → gI y 52 j = nI (wt p j)) n (sI h 50 7 1) ⟨fx_sI _ _ (by simp), fun k hk => by rw [gI_sI, if_neg (fun y => hk y.2)], by rw [gI_sI, if_pos ⟨rfl, rfl⟩]; rfl, fun j hj => absurd hj (Nat.not_lt_zero _)⟩ ?_ ?_
  · rintro x y ⟨fy, ky, e7, e52⟩
    have cy := CN_fx c0 fy (by decide) (by decide)
    have oy : OW n n p y := ⟨by rw [fx_I fy (x := 51) (by decide)]; exact ho, e52, h12, hW, hpm.1⟩
    have Ty : gI y 50 12 = nI t := (ky 12 (by decide)).trans hT
    unfold w_Op_findOrder_L7
    rw [X_r50_0 cy.1, cy.2.1.2.2.1, e7]
    refine ⟨X_k50 cy.1, cy.2.1.1.1, fun _ => ⟨fun _ => ?_, fun z => absurd (nI_le (b := 1296) hW (by omega)) z⟩, fun z => absurd (Int32.le_refl _) z⟩
    have down : ∀ N, N ≤ wt p n → ∀ z, Fx [54, 55] [] y z → (∀ M, N ≤ M → M < wt p n → gI z 55 M = sfT f r n p (nI t) M) → w_Op_findOrder_L69 Q 50 (N + 1) (nI N - 1) z := by
      intro N
      induction N with
      | zero =>
        intro _ z fz ez
        have cz := CN_fx cy fz (by decide) (by decide)
        have oz := OW_fx oy fz (by decide) (by decide)
        unfold w_Op_findOrder_L69
        refine ⟨fun _ => ?_, fun w => absurd (by decide) w⟩
        rw [X_r50_6 cz.1, X_n55 cz.1, show ix (0 : Int32) = 0 from rfl, ez 0 (Nat.le_refl _) Wp]
        refine ⟨X_k50 cz.1, X_k55 cz.1, vp_in_nI (n := 0) (by omega) (by omega), ?_⟩
        have f50 : ∀ k, gI z 50 k = gI y 50 k := fun k => by rw [fx_I fz (x := 50) (by decide)]
        refine loop_0 (fun x i (s : Int32 × Hp) => w_Op_findOrder_L112 Q 50 x s.1 (nI i) s.2) (fun i s => s.1 = nI (wlk p (sfT f r n p (nI t)) n i).1 ∧ Fx [53] [] (sI z 50 13 (sfT f r n p (nI t) 0)) s.2 ∧ ∀ i', i' < i → gI s.2 53 i' = nI (wlk p (sfT f r n p (nI t)) n (i' + 1)).2) t (0, sI z 50 13 (sfT f r n p (nI t) 0)) ⟨rfl, fx_refl _ _ _, fun i' hi' => absurd hi' (Nat.not_lt_zero _)⟩ ?_ ?_
        · rintro x ⟨a, s⟩ ⟨ea, fs, es⟩
          dsimp only at ea fs es ⊢
          have f1 : Fx [50, 52, 53, 54, 55] [] h s := fx_trans (fx_trans (fx_trans (fx_mono fy (by simp) (by simp)) (fx_mono fz (by simp) (by simp))) (fx_sI _ _ (by simp))) (fx_mono fs (by simp) (by simp))
          have k50 : ∀ k, k ≠ 7 → k ≠ 13 → gI s 50 k = gI h 50 k := fun k h7 h13 => by
            rw [fx_I fs (x := 50) (by decide), gI_sI, if_neg (fun y => h13 y.2), f50, ky k h7]
          unfold w_Op_findOrder_L112
          rw [k50 12 (by decide) (by decide), hT]
          refine ⟨X_k50 (fx_XS f1 m), fun _ => hq s f1 (k50 8 (by decide) (by decide)) (k50 9 (by decide) (by decide)) (k50 10 (by decide) (by decide)) (k50 11 (by decide) (by decide)) (k50 12 (by decide) (by decide)) ?_ es, fun w => absurd (Int32.le_refl _) w⟩
          rw [fx_I fs (x := 50) (by decide), gI_sI, if_pos ⟨rfl, rfl⟩]
        · rintro x i ⟨a, s⟩ hi ⟨ea, fs, es⟩ ih
          dsimp only at ea fs es ⊢
          subst ea
          have f1 : Fx [50, 53] [] z s := fx_trans (fx_sI _ _ (by simp)) (fx_mono fs (by simp) (by simp))
          have cs := CN_fx cz f1 (by decide) (by decide)
          have os := OW_fx oz f1 (by decide) (by decide)
          have k12 : gI s 50 12 = nI t := by
            rw [fx_I fs (x := 50) (by decide), gI_sI, if_neg (by decide), f50]; exact Ty
          have k13 : gI s 50 13 = sfT f r n p (nI t) 0 := by
            rw [fx_I fs (x := 50) (by decide), gI_sI, if_pos ⟨rfl, rfl⟩]
          obtain ⟨w1, w2, w3⟩ := wlk_ok (fun N _ => (st N).1) hpm.1 i (by omega)
          obtain ⟨c, hc, n1, n2⟩ := sfT_nx (fun N _ => (st N).1) w1 hpm.1 (by rw [w2, hpm.2]; omega) w3
          have hex : ∃ c, c < n ∧ fcP p (sfT f r n p (nI t)) (wlk p (sfT f r n p (nI t)) n i).1 c = true := ⟨c, hc, by unfold fcP; rw [decide_eq_true n1, decide_eq_true n2]; rfl⟩
          have fb := fst1_ex (P := fcP p (sfT f r n p (nI t)) (wlk p (sfT f r n p (nI t)) n i).1) n 0 ⟨c, Nat.zero_le _, by omega, by unfold fcP; rw [decide_eq_true n1, decide_eq_true n2]; rfl⟩
          have ws := wlk_s p (sfT f r n p (nI t)) n i
          unfold w_Op_findOrder_L112
          rw [k12]
          refine ⟨X_k50 cs.1, fun w => absurd w (nI_ge hi (by omega)), fun _ => t_Op_firstWithin cs os w1 (fun M hM => ?_) k13 hex ?_⟩
          · rw [fx_I f1 (x := 55) (by decide)]
            exact ez M (Nat.zero_le _) hM
          · generalize fst1 (fcP p (sfT f r n p (nI t)) (wlk p (sfT f r n p (nI t)) n i).1) n 0 = q at fb ws ⊢
            rw [X_r50_3 cs.1, X_r50_4 cs.1, X_k50 cs.1, X_k52 cs.1, X_k53 cs.1, X_n52 cs.1, X_n53 cs.1, ix_nI (n := i) (by omega), gI_sI, if_pos ⟨rfl, rfl⟩, gI_sI, if_neg (fun y => absurd y.1 (by decide)), ix_nI (n := q) (by omega), os.2.1 q (by omega), nI_add, nI_1]
            refine ⟨rfl, vp_in_nI (by omega) (by omega), rfl, rfl, vp_in_nI (by omega) (by omega), rfl, vp_in_nI (by omega) (by omega), ih (_, sI s 53 i (nI q)) ⟨?_, fx_trans fs (fx_sI _ _ (by simp)), fun i' hi' => ?_⟩⟩
            · rw [ws]; rfl
            · show gI (sI s 53 i (nI q)) 53 i' = _
              rw [gI_sI]
              by_cases g1 : i' = i
              · rw [if_pos ⟨rfl, g1⟩, g1, ws]
              · rw [if_neg (fun y => g1 y.2)]; exact es i' (by omega)
      | succ N ih =>
        intro hN z fz ez
        have cz := CN_fx cy fz (by decide) (by decide)
        have oz := OW_fx oy fz (by decide) (by decide)
        unfold w_Op_findOrder_L69
        rw [nI_s1]
        refine ⟨fun w => absurd w (nI_pos (by omega)), fun _ => ⟨X_k50 cz.1, t_Op_strayAtPart cz oz (by omega) (by rw [fx_I fz (x := 50) (by decide)]; exact Ty) (fun z2 f2 => ?_)⟩⟩
        have c2 := CN_fx cz f2 (by decide) (by decide)
        have o2 := OW_fx oz f2 (by decide) (by decide)
        have sl := sfT_le (f := f) (r := r) (n := n) (p := p) (T := nI t) (B := 999999999) (by decide) (fun N _ => (st N).1)
        have sn : ∀ M, M < wt p n → 0 ≤ sfT f r n p (nI t) M := fun M hM => by
          rw [sfT_fix hM]
          unfold vlN
          rw [gt_comm]
          exact le_gt (st M).2
        refine ⟨X_k50 c2.1, t_Op_leastBehind (g := sfT f r n p (nI t)) c2 o2 (show N < wt p n by omega) (fun M h1 h2 => ⟨?_, sn M h2, sl M h2⟩) (fun v h1 h2 => t_max ?_)⟩
        · rw [fx_I f2 (x := 55) (by decide)]
          exact ez M (by omega) h2
        · rw [vl_cls (st N).2 (by omega) h1 h2, ← sfT_fix (show N < wt p n by omega), X_r50_6 cz.1, X_k55 c2.1, X_n55 c2.1, ix_nI (n := N) (by omega)]
          refine ⟨rfl, vp_in_nI (by omega) (by omega), ?_⟩
          have := ih (by omega) (sI z2 55 N (sfT f r n p (nI t) N)) (fx_trans fz (fx_trans (fx_mono f2 (by simp) (by simp)) (fx_sI _ _ (by simp)))) (fun M h1 h2 => ?_)
          · rwa [Int32.sub_eq_add_neg] at this
          · rw [gI_sI]
            by_cases g1 : M = N
            · rw [if_pos ⟨rfl, g1⟩, g1]
            · rw [if_neg (fun y => g1 y.2), fx_I f2 (x := 55) (by decide)]
              exact ez M (by omega) h2
    exact ⟨wt p n + 1, down (wt p n) (Nat.le_refl _) y (fx_refl _ _ _) (fun M h1 h2 => by omega)⟩
  · rintro x c y hc ⟨fy, ky, e7, e52⟩ ih
    have cy := CN_fx c0 fy (by decide) (by decide)
    have hc12 := h12 c
    unfold w_Op_findOrder_L7
    rw [X_r50_0 cy.1, cy.2.1.2.2.1]
    refine ⟨X_k50 cy.1, cy.2.1.1.1, fun z => absurd z (nI_ge hc (by omega)), fun _ => ?_⟩
    rw [X_r50_2 cy.1, X_r50_3 cy.1, X_k51 cy.1, X_k52 cy.1, X_n51 cy.1, X_n52 cy.1, ix_nI (n := c) (by omega), e7, gI_sI, if_neg (fun y => absurd y.1 (by decide)), e7, gI_sI, if_neg (fun y => absurd y.1 (by decide)), fx_I fy (x := 51) (by decide), ho c hc, nI_1, nI_1, pk_mul]
    refine ⟨rfl, vp_in_nI (by omega) (by omega), rfl, vp_in_nI (by omega) (by omega), ih _ ⟨fx_trans fy (fx_trans (fx_sI _ _ (by simp)) (fx_sI _ _ (by simp))), fun k hk => ?_, ?_, fun j hj => ?_⟩⟩
    · rw [gI_sI, if_neg (fun y => hk y.2), gI_sI, if_neg (fun y => absurd y.1 (by decide))]; exact ky k hk
    · rw [gI_sI, if_pos ⟨rfl, rfl⟩]; rfl
    · rw [gI_sI, if_neg (fun y => absurd y.1 (by decide)), gI_sI]
      by_cases g1 : j = c
      · rw [if_pos ⟨rfl, g1⟩, g1]
      · rw [if_neg (fun y => g1 y.2)]; exact e52 j (by omega)
