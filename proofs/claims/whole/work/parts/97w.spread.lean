/-! The class's strip: from one layer to the next -/
variable {h : Hp}
theorem toInt_nI {x : Int32} {z : Nat} (e : x.toInt = (z : Int)) (hz : z < 2 ^ 31) : x = nI z := by
  rw [← Int32.toInt_inj, nI_toInt hz, e]
theorem ni3 {a x : Nat} (ha : a = 46 ∨ 120 ≤ a) (hx : x < 45 ∨ 50 ≤ x ∧ x < 120) : x ∉ [45, a + 1, a + 2] := by
  simp
  omega
theorem SB_LF {f : Nat → Int32} {r t w k ρ a : Nat} {h' : Hp} (sb : SB f r t w h) (ha : a = 46 ∨ 120 ≤ a) (x : LF k ρ a h h') : SB f r t w h' := SB_eq sb (by rw [fx_I x.1 (x := 42) (ni3 ha (by omega))]) (by rw [fx_I x.1 (x := 42) (ni3 ha (by omega))]) (fx_I x.1 (ni3 ha (by omega))) (fx_I x.1 (ni3 ha (by omega)))
theorem RM_LF {k ρ a ρ' : Nat} {h' : Hp} (rm : RM ρ' a h) (x : LF k ρ a h h') : RM ρ' a h' := RM_fx rm x.1 (by rw [fx_I x.1 (x := 42) (ni3 rm.2.2.2.2 (by omega))])
theorem CN_LF {f : Nat → Int32} {r n k ρ a : Nat} {h' : Hp} (c : CN f r n h) (ha : a = 46 ∨ 120 ≤ a) (x : LF k ρ a h h') : CN f r n h' := CN_fx c x.1 (ni3 ha (by omega)) (ni3 ha (by omega))
theorem sm_pos {f : Nat → Int32} {r n t w k x : Nat} {D : Nat → Bool} {v : Int32} {ch : Nat} {g : Nat → Int32} (hn : n ≤ 8) (hk : k ≤ 12) (b : BM D g n v ch) (hv : ∀ c, c < n → D c = true → Vk f r n t w k (bk f (Zk x) c) ≠ 0) : lN (smN (fun c => if D c = true then Vk f r n t w k (bk f (Zk x) c) else 0) n) ≠ 0 := by
  have hb : ∀ c, (fun c => if D c = true then Vk f r n t w k (bk f (Zk x) c) else 0) c ≤ 68719476736 := fun c => by
    dsimp only
    split
    · unfold Vk vz
      split
      · exact wz_lt hn hk _
      · omega
    · omega
  have h1 := smN_le (n := n) (fun c _ => hb c)
  have h2 : n * 68719476736 ≤ 8 * 68719476736 := Nat.mul_le_mul_right _ hn
  have h3 : smN (fun c => if D c = true then Vk f r n t w k (bk f (Zk x) c) else 0) n ≠ 0 := smN_pos.mpr ⟨ch, b.1, by rw [if_pos b.2.1]; exact hv ch b.1 b.2.1⟩
  exact fun q => h3 ((lN_e0 (by omega)).mp q)
set_option maxHeartbeats 1000000 in
theorem t_St_leave {f : Nat → Int32} {r n t w k ρ a i : Nat} {Q : Int32 → Hp → Prop} (c0 : CN f r n h) (rm : RM ρ a h) (hρ1 : ρ ≤ 15625) (hρ : 25 ^ r ≤ ρ) (ht : t ≤ 12) (hw : w ≤ 12) (hk : k < t) (sb : SB f r t w h) (si : SI f r n t w k ρ a h) (hi : i < (lay f r n t w k).length) (az : AtZ (Zk ((lay f r n t w k).getD i 0)) h) (ti : TI f r n t w k ρ a (Dn f r (lay f r n t w k) i 0) (nxI f r n t w (k + 1) (lay f r n t w k) i) h)
    (hq : ∀ h', LF k ρ a h h' → TI f r n t w k ρ a (Dn f r (lay f r n t w k) (i + 1) 0) (nxI f r n t w (k + 1) (lay f r n t w k) (i + 1)) h' → Q (nI (nxI f r n t w (k + 1) (lay f r n t w k) (i + 1)).length) h') : w_St_leave 42 (nI (k % 2 * ρ + cl f r t w k (Zk ((lay f r n t w k).getD i 0)))) (nI (k + 1)) (nI (nxI f r n t w (k + 1) (lay f r n t w k) i).length) h Q := by
  have m := c0.1
  have hn := c0.2.1.2.2.2.2.2
  have hr1 := c0.2.1.2.2.2.1
  have hr := c0.2.1.2.2.2.2.1
  have hF := c0.2.2.2.1
  have hN := c0.2.2.2.2.1
  have hZ := c0.2.2.2.2.2.2.1
  have ha := rm.2.2.2.2
  have e6 := rm.2.2.2.1
  have okl := kOK_lay (t := t) (w := w) (r := r) hF k (by omega)
  have lin := fun s hs => lay_inB (n := n) hr hF hN ht hw k (by omega) s hs
  have lcl : ∀ s, s ∈ (lay f r n t w k) → cl f r t w k (Zk s) < ρ := fun s hs => Nat.lt_of_lt_of_le (cl_lt hw hr1 hr (lin s hs)) hρ
  have llen : (lay f r n t w k).length ≤ ρ := cl_len hr1 hr hw hρ okl lin
  have hs := getD_mem (d := 0) hi
  have ks : isKy f r n k ((lay f r n t w k).getD i 0) := okl.2 _ hs
  have okA : ∀ c, c ≤ n → kOK f r n (k + 1) (nxC f r t w (k + 1) ((lay f r n t w k).getD i 0) (nxI f r n t w (k + 1) (lay f r n t w k) i) c) := fun c hc => by
    obtain ⟨p, hp, ep⟩ := ks
    rw [ep]
    exact kOK_nxC hF (by omega) hp (kOK_nxI hF (by omega) okl i (by omega)) c hc
  have okx : ∀ c y, y ∈ (nxC f r t w (k + 1) ((lay f r n t w k).getD i 0) (nxI f r n t w (k + 1) (lay f r n t w k) i) c) → okS f r t w (k + 1) y = true := fun c y hy => by
    rw [mem_nxC, mem_nxI] at hy
    rcases hy with ⟨i', c', _, _, _, e⟩ | ⟨c', _, _, e⟩ <;> exact e
  have inA : ∀ c, c ≤ n → ∀ y, y ∈ (nxC f r t w (k + 1) ((lay f r n t w k).getD i 0) (nxI f r n t w (k + 1) (lay f r n t w k) i) c) → inB f r t w (k + 1) (Zk y) := fun c hc y hy => (ok_inB hr hF hN ht hw (by omega) ((okA c hc).2 y hy)).mp (okx c y hy)
  have ez : ∀ c, c < n → ∀ j, j < 3 → Zk (kst f r ((lay f r n t w k).getD i 0) c) j = Zk ((lay f r n t w k).getD i 0) j + (f (3 * c + j)).toInt := fun c hc j hj => by
    by_cases g : j < r
    · have := isKy_Z hr hF (show k < 12 by omega) hc ks g
      unfold bk at this
      omega
    · rw [isKy_0 hF (by omega) (isKy_st hF (by omega) hc ks) (by omega) hj, isKy_0 hF (by omega) ks (by omega) hj, (hZ j (by omega) hj).2 c (by omega)]
      rfl
  have bnd := fun j (hj : j < 3) => lb_bd (r := r) (t := t) (w := w) (k := k + 1) hN (by omega) hw hj
  have zb := fun j (hj : j < 3) => isKy_bd hF (show k ≤ 12 by omega) ks hj
  have sbk := fun j (hj : j < 3) => sb.2.2 (k + 1) j (by omega) hj
  have uI : ∀ j A, j < 3 → A = 3 * (k + 1) + j → (gI h 45 j - gI h 43 A).toInt = Zk ((lay f r n t w k).getD i 0) j - lb f r t w (k + 1) j := fun j A hj e => by
    have b1 := bnd j hj
    have b2 := zb j hj
    have b3 := az j hj
    have b4 := (sbk j hj).1
    rw [e, Jvm.Kit.i32_sub (by omega) (by omega), b3, b4]
  have wI : ∀ j A, j < 3 → A = 3 * (k + 1) + j → (gI h 44 A - gI h 43 A).toInt = hb f r t w (k + 1) j - lb f r t w (k + 1) j := fun j A hj e => by
    have b1 := bnd j hj
    have b3 := (sbk j hj).2
    have b4 := (sbk j hj).1
    rw [e, Jvm.Kit.i32_sub (by omega) (by omega), b3, b4]
  have u0 := uI 0 ((k + 1) * 3) (by omega) (by omega)
  have u1 := uI 1 ((k + 1) * 3 + 1) (by omega) (by omega)
  have u2 := uI 2 ((k + 1) * 3 + 2) (by omega) (by omega)
  have w0 := wI 0 ((k + 1) * 3) (by omega) (by omega)
  have w1 := wI 1 ((k + 1) * 3 + 1) (by omega) (by omega)
  have w2 := wI 2 ((k + 1) * 3 + 2) (by omega) (by omega)
  unfold w_St_leave w_St_layer
  rw [and1n (k + 1) (by omega)]
  dsimp only
  rw [X_r42_3 m, X_r42_1 m, X_r42_2 m, X_n45 m, X_n43 m, X_n44 m, e6, show (3 : Int32) = nI 3 from rfl, pk_mul ((k + 1) % 2) ρ, pk_mul (k + 1) 3, nI_1 ((k + 1) * 3), show nI ((k + 1) * 3) + 2 = nI ((k + 1) * 3 + 2) from nI_add _ 2, ix_nI (n := (k + 1) * 3) (by omega), ix_nI (n := (k + 1) * 3 + 1) (by omega), ix_nI (n := (k + 1) * 3 + 2) (by omega), show ix (0 : Int32) = 0 from rfl, show ix (1 : Int32) = 1 from rfl, show ix (2 : Int32) = 2 from rfl]
  refine ⟨X_k42 m, X_k45 m, vp_in_nI (n := 0) (by omega) (by omega), X_k43 m, vp_in_nI (by omega) (by omega), vp_in_nI (n := 1) (by omega) (by omega), vp_in_nI (by omega) (by omega), vp_in_nI (n := 2) (by omega) (by omega), vp_in_nI (by omega) (by omega), X_k44 m, vp_in_nI (by omega) (by omega), vp_in_nI (by omega) (by omega), vp_in_nI (by omega) (by omega), ?_⟩
  generalize gI h 45 0 - gI h 43 ((k + 1) * 3) = v6 at u0 ⊢
  generalize gI h 45 1 - gI h 43 ((k + 1) * 3 + 1) = v7 at u1 ⊢
  generalize gI h 45 2 - gI h 43 ((k + 1) * 3 + 2) = v8 at u2 ⊢
  generalize gI h 44 ((k + 1) * 3) - gI h 43 ((k + 1) * 3) = v9 at w0 ⊢
  generalize gI h 44 ((k + 1) * 3 + 1) - gI h 43 ((k + 1) * 3 + 1) = v10 at w1 ⊢
  generalize gI h 44 ((k + 1) * 3 + 2) - gI h 43 ((k + 1) * 3 + 2) = v11 at w2 ⊢
  refine loop_0 (fun q c st => w_St_leave_L133 Q 42 (nI (k % 2 * ρ + cl f r t w k (Zk ((lay f r n t w k).getD i 0)))) (nI (k + 1)) (nI ((k + 1) % 2 * ρ)) v6 v7 v8 v9 v10 v11 q (nI (nxC f r t w (k + 1) ((lay f r n t w k).getD i 0) (nxI f r n t w (k + 1) (lay f r n t w k) i) c).length) (nI c) st) (fun c st => LF k ρ a h st ∧ TI f r n t w k ρ a (Dn f r (lay f r n t w k) i c) (nxC f r t w (k + 1) ((lay f r n t w k).getD i 0) (nxI f r n t w (k + 1) (lay f r n t w k) i) c) st) n h ⟨LF_refl, ti⟩ ?_ ?_
  · rintro q st ⟨x, e⟩
    have cs := CN_LF c0 ha x
    have ms := cs.1
    unfold w_St_leave_L133
    rw [X_r42_0 ms, show gI st 21 2 = nI n from cs.2.1.2.2.1]
    exact ⟨X_k42 ms, X_k21 ms, fun _ => hq st x (TI_congr e (fun y c _ hc => Dn_next hc)), fun z => absurd (Int32.le_refl _) z⟩
  · rintro q c st hc ⟨x, e⟩ ih
    have cs := CN_LF c0 ha x
    have ms := cs.1
    have rms := RM_LF rm x
    have sbs := SB_LF sb ha x
    have sis := SI_LF si x llen lcl
    have kx := isKy_st hF (show k < 12 by omega) hc ks
    have f0 := hF c 0 hc (by omega)
    have f1 := hF c 1 hc (by omega)
    have f2 := hF c 2 hc (by omega)
    have z0 := ez c hc 0 (by omega)
    have z1 := ez c hc 1 (by omega)
    have z2 := ez c hc 2 (by omega)
    have b0 := bnd 0 (by omega)
    have b1 := bnd 1 (by omega)
    have b2 := bnd 2 (by omega)
    have y0 := zb 0 (by omega)
    have y1 := zb 1 (by omega)
    have y2 := zb 2 (by omega)
    have a0 : (v6 + f (3 * c + 0)).toInt = Zk (kst f r ((lay f r n t w k).getD i 0) c) 0 - lb f r t w (k + 1) 0 := by rw [Jvm.Kit.i32_add (by omega) (by omega)]; omega
    have a1 : (v7 + f (3 * c + 1)).toInt = Zk (kst f r ((lay f r n t w k).getD i 0) c) 1 - lb f r t w (k + 1) 1 := by rw [Jvm.Kit.i32_add (by omega) (by omega)]; omega
    have a2 : (v8 + f (3 * c + 2)).toInt = Zk (kst f r ((lay f r n t w k).getD i 0) c) 2 - lb f r t w (k + 1) 2 := by rw [Jvm.Kit.i32_add (by omega) (by omega)]; omega
    have i0 : (0 : Int32).toInt = 0 := rfl
    have skip : ¬ inB f r t w (k + 1) (Zk (kst f r ((lay f r n t w k).getD i 0) c)) → w_St_leave_L133 Q 42 (nI (k % 2 * ρ + cl f r t w k (Zk ((lay f r n t w k).getD i 0)))) (nI (k + 1)) (nI ((k + 1) % 2 * ρ)) v6 v7 v8 v9 v10 v11 q (nI (nxC f r t w (k + 1) ((lay f r n t w k).getD i 0) (nxI f r n t w (k + 1) (lay f r n t w k) i) c).length) (nI c + 1) st := fun nb => by
      have no : okS f r t w (k + 1) (kst f r ((lay f r n t w k).getD i 0) c) = false := by
        cases g : okS f r t w (k + 1) (kst f r ((lay f r n t w k).getD i 0) c) with
        | false => rfl
        | true => exact absurd ((ok_inB hr hF hN ht hw (by omega) kx).mp g) nb
      have ea : (nxC f r t w (k + 1) ((lay f r n t w k).getD i 0) (nxI f r n t w (k + 1) (lay f r n t w k) i) (c + 1)) = (nxC f r t w (k + 1) ((lay f r n t w k).getD i 0) (nxI f r n t w (k + 1) (lay f r n t w k) i) c) := by
        rw [nxC, no]
        unfold addk
        rw [if_neg (fun q => absurd q.1 (by decide))]
      have := ih st ⟨x, by
        rw [ea]
        exact TI_congr e (fun y c' hy _ => Dn_other (fun q => by
          have := okx c y hy
          rw [← q, no] at this
          cases this))⟩
      rw [ea] at this
      rw [nI_1 c]
      exact this
    unfold w_St_leave_L133
    rw [X_r42_0 ms, show gI st 21 2 = nI n from cs.2.1.2.2.1]
    refine ⟨X_k42 ms, X_k21 ms, fun z => absurd z (nI_ge hc (by omega)), fun _ => t_Co_numberOf (k := 0) (CO_21 ms) (by omega) ⟨X_k42 ms, ?_⟩⟩
    rw [X_r42_0 ms]
    refine ⟨X_k21 ms, t_Co_numberOf (k := 1) (CO_21 ms) (by omega) ⟨X_k42 ms, ?_⟩⟩
    rw [X_r42_0 ms]
    refine ⟨X_k21 ms, t_Co_numberOf (k := 2) (CO_21 ms) (by omega) ?_⟩
    rw [show gI st (21 + 1) = f from cs.2.2.1]
    refine ⟨fun z => skip (fun g => ?_), fun z3 => ⟨fun z => skip (fun g => ?_), fun z4 => ⟨fun z => skip (fun g => ?_), fun z5 => ⟨fun z => skip (fun g => ?_), fun z6 => ⟨fun z => skip (fun g => ?_), fun z7 => ⟨fun z8 => ⟨X_k42 ms, ?_⟩, fun z => skip (fun g => ?_)⟩⟩⟩⟩⟩⟩
    · have := g 0 (by omega)
      rw [Int32.lt_iff_toInt_lt, a0, i0] at z
      omega
    · have := g 0 (by omega)
      rw [Int32.lt_iff_toInt_lt, a0, w0] at z
      omega
    · have := g 1 (by omega)
      rw [Int32.lt_iff_toInt_lt, a1, i0] at z
      omega
    · have := g 1 (by omega)
      rw [Int32.lt_iff_toInt_lt, a1, w1] at z
      omega
    · have := g 2 (by omega)
      rw [Int32.lt_iff_toInt_lt, a2, i0] at z
      omega
    · rw [Int32.lt_iff_toInt_lt, a0, i0] at z3
      rw [Int32.lt_iff_toInt_lt, a0, w0] at z4
      rw [Int32.lt_iff_toInt_lt, a1, i0] at z5
      rw [Int32.lt_iff_toInt_lt, a1, w1] at z6
      rw [Int32.lt_iff_toInt_lt, a2, i0] at z7
      rw [Int32.le_iff_toInt_le, a2, w2] at z8
      have ib : inB f r t w (k + 1) (Zk (kst f r ((lay f r n t w k).getD i 0) c)) := fun j hj => by
        match j, hj with
        | 0, _ => omega
        | 1, _ => omega
        | 2, _ => omega
      have q0 : v6 + f (3 * c + 0) = nI (xs f r t w (k + 1) (Zk (kst f r ((lay f r n t w k).getD i 0) c)) 0) := toInt_nI (by rw [a0]; unfold xs; omega) (by unfold xs; omega)
      have q1 : v7 + f (3 * c + 1) = nI (xs f r t w (k + 1) (Zk (kst f r ((lay f r n t w k).getD i 0) c)) 1) := toInt_nI (by rw [a1]; unfold xs; omega) (by unfold xs; omega)
      have q2 : v8 + f (3 * c + 2) = nI (xs f r t w (k + 1) (Zk (kst f r ((lay f r n t w k).getD i 0) c)) 2) := toInt_nI (by rw [a2]; unfold xs; omega) (by unfold xs; omega)
      have ec : ((v6 + f (3 * c + 0)) * gI st 42 4 + (v7 + f (3 * c + 1))) * gI st 42 5 + (v8 + f (3 * c + 2)) = nI (cl f r t w (k + 1) (Zk (kst f r ((lay f r n t w k).getD i 0) c))) := by
        rw [q0, q1, q2, sbs.1, sbs.2.1, pk_mul, nI_add, pk_mul, nI_add]
        rfl
      rw [ec]
      have oks := (ok_inB hr hF hN ht hw (by omega) kx).mpr ib
      have clx : cl f r t w (k + 1) (Zk (kst f r ((lay f r n t w k).getD i 0) c)) < ρ := Nat.lt_of_lt_of_le (cl_lt hw hr1 hr ib) hρ
      have s12 := sis.2.1 _ hs
      have vk : Vk f r n t w k (bk f (Zk (kst f r ((lay f r n t w k).getD i 0) c)) c) = Vk f r n t w k (Zk ((lay f r n t w k).getD i 0)) := Vk_congr (fun j hj => isKy_Z hr hF (by omega) hc ks hj)
      have rk : Rk f r n t w k (bk f (Zk (kst f r ((lay f r n t w k).getD i 0) c)) c) = Rk f r n t w k (Zk ((lay f r n t w k).getD i 0)) := Rk_congr (fun j hj => isKy_Z hr hF (by omega) hc ks hj)
      rw [← vk, ← rk] at s12
      have inj : ∀ y, y ∈ (nxC f r t w (k + 1) ((lay f r n t w k).getD i 0) (nxI f r n t w (k + 1) (lay f r n t w k) i) c) → y ≠ kst f r ((lay f r n t w k).getD i 0) c → cl f r t w (k + 1) (Zk y) ≠ cl f r t w (k + 1) (Zk (kst f r ((lay f r n t w k).getD i 0) c)) := fun y hy ne q => ne (Zk_inj (cl_inj (inA c (by omega) y hy) ib q))
      have dfr := Dn_fresh (r := r) hr hF (show k < 12 by omega) hc okl hi
      refine t_St_reach cs rms hρ1 (by omega) clx (half_lt (lcl _ hs)) (half_ne clx (lcl _ hs)) hc (fun h' R1 R2 R3 R4 R5 R6 => ?_)
      have R : RP f ρ a (k + 1) (cl f r t w (k + 1) (Zk (kst f r ((lay f r n t w k).getD i 0) c))) (k % 2 * ρ + cl f r t w k (Zk ((lay f r n t w k).getD i 0))) c st h' := ⟨R1, R2, R3, R4, R5, R6⟩
      have x' := LF_trans x (LF_RP clx R)
      by_cases g : kst f r ((lay f r n t w k).getD i 0) c ∈ (nxC f r t w (k + 1) ((lay f r n t w k).getD i 0) (nxI f r n t w (k + 1) (lay f r n t w k) i) c)
      · have old := e.2.1 _ g
        have nz : gL st a ((k + 1) % 2 * ρ + cl f r t w (k + 1) (Zk (kst f r ((lay f r n t w k).getD i 0) c))) ≠ 0 := by
          rw [old.1]
          refine sm_pos hn (by omega) old.2 (fun c' hc' hd => ?_)
          obtain ⟨i', h1, h2, h3⟩ := Dn_t.mp hd
          have hm := getD_mem (d := 0) h1
          rw [← h3, Vk_congr (fun j hj => isKy_Z hr hF (by omega) hc' (okl.2 _ hm) hj)]
          exact lay_V hr hF hN ht hw k (by omega) _ hm
        have ea : (nxC f r t w (k + 1) ((lay f r n t w k).getD i 0) (nxI f r n t w (k + 1) (lay f r n t w k) i) (c + 1)) = (nxC f r t w (k + 1) ((lay f r n t w k).getD i 0) (nxI f r n t w (k + 1) (lay f r n t w k) i) c) := by
          rw [nxC]
          unfold addk
          rw [if_neg (fun q => q.2 g)]
        rw [decide_eq_false nz]
        refine ⟨fun _ => ?_, fun q => absurd rfl q⟩
        have := ih h' ⟨x', by
          rw [ea]
          exact TI_old e g hc inj nz s12.1 s12.2 dfr (fun y c' ne => Dn_other (fun q => ne q.symm)) (fun c' => Dn_same hi rfl) R⟩
        rw [ea] at this
        rw [nI_1 c]
        exact this
      · have injg : ∀ y, y ∈ (nxC f r t w (k + 1) ((lay f r n t w k).getD i 0) (nxI f r n t w (k + 1) (lay f r n t w k) i) c) → cl f r t w (k + 1) (Zk y) ≠ cl f r t w (k + 1) (Zk (kst f r ((lay f r n t w k).getD i 0) c)) := fun y hy => inj y hy (fun q => g (q ▸ hy))
        have z0 : gL st a ((k + 1) % 2 * ρ + cl f r t w (k + 1) (Zk (kst f r ((lay f r n t w k).getD i 0) c))) = 0 := e.2.2 _ clx injg
        have ea : (nxC f r t w (k + 1) ((lay f r n t w k).getD i 0) (nxI f r n t w (k + 1) (lay f r n t w k) i) (c + 1)) = (nxC f r t w (k + 1) ((lay f r n t w k).getD i 0) (nxI f r n t w (k + 1) (lay f r n t w k) i) c) ++ [kst f r ((lay f r n t w k).getD i 0) c] := by
          rw [nxC]
          unfold addk
          rw [if_pos ⟨oks, g⟩]
        have len := cl_len hr1 hr hw hρ (okA (c + 1) (by omega)) (inA (c + 1) (by omega))
        rw [ea, List.length_append, List.length_singleton] at len
        have rm' := RM_LF rm x'
        have m' := (CN_LF c0 ha x').1
        have hl := half_lt (k := k + 1) (ρ := ρ) (x := (nxC f r t w (k + 1) ((lay f r n t w k).getD i 0) (nxI f r n t w (k + 1) (lay f r n t w k) i) c).length) (by omega)
        rw [decide_eq_true z0]
        refine ⟨fun q => absurd q (by decide), fun _ => ⟨X_k42 m', ?_⟩⟩
        rw [rm'.1.2.2.1, rm'.2.1.2.2.1, rm'.2.2.1.2.2.1, nI_add, ix_nI (by omega)]
        refine ⟨rfl, vp_in_nI hl (by omega), ?_⟩
        have := ih (sI h' (a + 2) ((k + 1) % 2 * ρ + (nxC f r t w (k + 1) ((lay f r n t w k).getD i 0) (nxI f r n t w (k + 1) (lay f r n t w k) i) c).length) (nI (cl f r t w (k + 1) (Zk (kst f r ((lay f r n t w k).getD i 0) c))))) ⟨LF_trans x' (LF_sI (by omega)), by
          rw [ea]
          refine TI_new e g hc clx injg s12.1 s12.2 (fun c' hc' => ?_) (fun y c' ne => Dn_other (fun q => ne q.symm)) (fun c' => Dn_same hi rfl) R
          cases q : Dn f r (lay f r n t w k) i c (kst f r ((lay f r n t w k).getD i 0) c) c' with
          | false => rfl
          | true =>
            obtain ⟨i', h1, h2, h3⟩ := Dn_t.mp q
            refine absurd ?_ g
            rw [mem_nxC, mem_nxI]
            rcases h2 with h2 | ⟨h2, h4⟩
            · exact Or.inl ⟨i', c', h2, hc', h3.symm, oks⟩
            · exact Or.inr ⟨c', h4, by rw [← h3, h2], oks⟩⟩
        rw [ea, List.length_append, List.length_singleton] at this
        rw [nI_1 c, nI_1]
        exact this
    · have := g 2 (by omega)
      rw [Int32.le_iff_toInt_le, a2, w2] at z
      omega
