/-! The class doubles sums: what is kept, what is told -/
variable {h : Hp}
def hasN (f : Nat → Int32) (r n L w : Nat) : Bool := (lev f r n L w L).any (fun k => ndZ f r (Zk k))
def VD (f : Nat → Int32) (r n L w : Nat) (h : Hp) : Prop := (∀ x, x ≤ L → gI h 66 x = nI (lev f r n L w x).length) ∧ gI h 65 11 = b2i (hasN f r n L w)
def KD (f : Nat → Int32) (r n b : Nat) (h : Hp) : Prop := gI h 65 7 = 0 ∨ ∃ a L w, a ≤ b ∧ L ≤ 4 ∧ w ≤ 3 ∧ gI h 65 8 = nI a ∧ gI h 65 9 = nI L ∧ gI h 65 10 = nI w ∧ (a = b → VD f r n L w h)
theorem KD_fx {f : Nat → Int32} {r n b : Nat} {as js : List Nat} {h' : Hp} (k : KD f r n b h) (x : Fx as js h h') (h0 : 65 ∉ as) (h1 : 66 ∉ as) : KD f r n b h' := by
  unfold KD VD
  rw [fx_I x h0, fx_I x h1]
  exact k
def kNd (f : Nat → Int32) : Nat := kNo (60 + (f 32).toInt).toNat (60 + (f 33).toInt).toNat (60 + (f 34).toInt).toNat
theorem kNd_Z {f : Nat → Int32} (hN : NB f) : ∀ j, j < 3 → Zk (kNd f) j = (f (32 + j)).toInt := by
  have n0 := hN 0 (by omega)
  have n1 : -20 ≤ (f 33).toInt ∧ (f 33).toInt ≤ 20 := hN 1 (by omega)
  have n2 : -20 ≤ (f 34).toInt ∧ (f 34).toInt ≤ 20 := hN 2 (by omega)
  rw [Nat.add_zero] at n0
  obtain ⟨a, b, c⟩ := upk_kNo (x := (60 + (f 32).toInt).toNat) (y := (60 + (f 33).toInt).toNat) (z := (60 + (f 34).toInt).toNat) (by omega) (by omega)
  intro j hj
  unfold Zk kNd
  match j, hj with
  | 0, _ => rw [a, Nat.add_zero]; omega
  | 1, _ => rw [b]; show _ = (f 33).toInt; omega
  | 2, _ => rw [c]; show _ = (f 34).toInt; omega
theorem kNd_nr {f : Nat → Int32} {w : Nat} (hN : NB f) : nrK f w (2 ^ 0) (kNd f) = true := by
  rw [nrK_3]
  intro j hj
  rw [kNd_Z hN j hj]
  unfold loZ hiZ
  rw [show ((2 ^ 0 : Nat) : Int) = 1 from rfl, Int.ediv_one, Int.ediv_one]
  omega
theorem hasN_iff {f : Nat → Int32} {r n L w : Nat} (hF : FB f n) (hN : NB f) (hZ : ZB f r) (hn : n ≤ 8) (hr : r ≤ 3) (hL : L ≤ 4) (hw : w ≤ 3) : hasN f r n L w = decide (kNd f ∈ lev f r n L w L) := by
  have ok := dOK_lev (r := r) hF hN hZ hn hL hw L (Nat.le_refl _)
  have key : ∀ k, k ∈ lev f r n L w L → (ndZ f r (Zk k) = true ↔ k = kNd f) := fun k hk => by
    unfold ndZ
    rw [allB_true]
    constructor
    · intro a
      refine Zk_inj (fun j hj => ?_)
      rw [kNd_Z hN j hj]
      by_cases g : j < r
      · exact of_decide_eq_true (a j g)
      · rw [(ok.2 k hk).2.2 j (by omega) hj, (hZ j (by omega) hj).1]
        rfl
    · intro e j hj
      rw [e, kNd_Z hN j (by omega), decide_eq_true rfl]
  unfold hasN
  by_cases g : kNd f ∈ lev f r n L w L
  · rw [decide_eq_true g, List.any_eq_true]
    exact ⟨_, g, (key _ g).mpr rfl⟩
  · rw [decide_eq_false g, List.any_eq_false]
    intro k hk e
    exact g ((key k hk).mp e ▸ hk)
/-- the marks of what is kept -/
def DK (b L w : Nat) (h : Hp) : Prop := gI h 65 7 = 1 ∧ gI h 65 8 = nI b ∧ gI h 65 9 = nI L ∧ gI h 65 10 = nI w
theorem DK_eq {b L w : Nat} {h' : Hp} (a : DK b L w h) (e : ∀ k, k ≠ 6 → gI h' 65 k = gI h 65 k) : DK b L w h' := by
  unfold DK
  rw [e 7 (by decide), e 8 (by decide), e 9 (by decide), e 10 (by decide)]
  exact a
theorem t_Db_levels {f : Nat → Int32} {r n b L w : Nat} {Q : Hp → Prop} (c0 : CN f r n h) (hL : L ≤ 4) (hw : w ≤ 3) (k0 : DK b L w h) (s0 : gI h 66 0 = nI (lev f r n L w 0).length) (d0 : DV f w (2 ^ L) 0 (lev f r n L w 0) h) (hq : ∀ h', Fx [65, 66, 67, 68, 69, 70] [] h h' → VD f r n L w h' → DK b L w h' → Q h') : ∃ k, w_Db_raise_L141 Q 65 (nI L) (nI w) k 1 h := by
  have m := c0.1
  have hn := c0.2.1.2.2.2.2.2
  have hr := c0.2.1.2.2.2.2.1
  have hF := c0.2.2.2.1
  have hN := c0.2.2.2.2.1
  have hZ := c0.2.2.2.2.2.2.1
  have ok := dOK_lev (r := r) hF hN hZ hn hL hw
  refine loop_0 (fun k l s => w_Db_raise_L141 Q 65 (nI L) (nI w) k (nI (l + 1)) s) (fun l s => Fx [65, 66, 67, 68, 69, 70] [] h s ∧ DK b L w s ∧ (∀ x, x ≤ l → gI s 66 x = nI (lev f r n L w x).length) ∧ DV f w (2 ^ (L - l)) (l % 2) (lev f r n L w l) s) L h ⟨fx_refl _ _ _, k0, fun x hx => by rw [show x = 0 from by omega]; exact s0, d0⟩ ?_ ?_
  · rintro k s ⟨x, dk, sz, dv⟩
    have cs := CN_fx c0 x (by decide) (by decide)
    have ms := cs.1
    have e22 : ∀ j, gI s (21 + 1) j = f j := fun j => by rw [show gI s (21 + 1) = f from cs.2.2.1]
    have zk := kNd_Z hN
    have nr := kNd_nr (w := w) hN
    have hh := hasN_iff (w := w) (L := L) hF hN hZ hn hr hL hw
    rw [Nat.sub_self] at dv
    unfold w_Db_raise_L141
    rw [X_r65_0 ms]
    refine ⟨fun _ => ⟨X_k65 ms, X_k21 ms, t_Co_needOf (i := 0) (CO_21 ms) (by omega) ⟨X_k65 ms, ?_⟩⟩, fun z => absurd (nI_lt (by omega) (by omega)) z⟩
    rw [X_r65_0 ms]
    refine ⟨X_k21 ms, t_Co_needOf (i := 1) (CO_21 ms) (by omega) ⟨X_k65 ms, ?_⟩⟩
    rw [X_r65_0 ms]
    refine ⟨X_k21 ms, t_Co_needOf (i := 2) (CO_21 ms) (by omega) ⟨X_k65 ms, ?_⟩⟩
    rw [e22, e22, e22]
    refine t_Db_offsetOf (k := kNd f) ms hN hw (by omega) dv.1 (zk 0 (by omega)).symm (zk 1 (by omega)).symm (zk 2 (by omega)).symm (fun j hj => by rw [zk j hj]; have := hN j hj; omega) (fun q => absurd (q.symm.trans nr) (by decide)) (fun _ => ?_)
    have lt := oZ_lt hN hw (by omega) nr
    have lt' : oK f w (2 ^ 0) (kNd f) < 343 := by unfold oK; omega
    have iff := dv.2.2.2 _ nr
    have go : ∀ v, v = b2i (hasN f r n L w) → Q (sI s 65 11 v) := fun v ev => by
      refine hq _ (fx_trans x (fx_sI _ _ (by simp))) ⟨fun x hx => ?_, ?_⟩ ⟨?_, ?_, ?_, ?_⟩
      · rw [gI_sI, if_neg (fun q => absurd q.1 (by decide))]
        exact sz x hx
      · rw [gI_sI, if_pos ⟨rfl, rfl⟩, ev]
      · rw [gI_sI, if_neg (by decide)]; exact dk.1
      · rw [gI_sI, if_neg (by decide)]; exact dk.2.1
      · rw [gI_sI, if_neg (by decide)]; exact dk.2.2.1
      · rw [gI_sI, if_neg (by decide)]; exact dk.2.2.2
    rw [X_r65_4 ms, X_n69 ms, ix_nI (by omega)]
    refine ⟨fun z => absurd z (nI_nlt (b := 0) (by omega) (by omega)), fun _ => ⟨X_k65 ms, X_k69 ms, vp_in_nI (by omega) (by omega), fun z => go 1 ?_, fun z => go 0 ?_⟩⟩
    · rw [hh, decide_eq_true (iff.mp z)]
      rfl
    · rw [hh, decide_eq_false (fun q => z (iff.mpr q))]
      rfl
  · rintro k l s hl ⟨x, dk, sz, dv⟩ ih
    have cs := CN_fx c0 x (by decide) (by decide)
    have ms := cs.1
    unfold w_Db_raise_L141
    rw [nI_subN (by omega), dv.2.1]
    refine ⟨fun z => absurd z (nI_nlt (by omega) (by omega)), fun _ => ⟨X_k65 ms, t_Db_beginLevel cs hw (show L - (l + 1) ≤ 4 by omega) (fun s1 x1 e1 d1 => ?_)⟩⟩
    have m1 := fx_XS x1 ms
    have dp : DP (1 - (l + 1) % 2) (lev f r n L w l) s1 := fun i j hi hj => by
      rw [show 1 - (l + 1) % 2 = l % 2 from by omega, fx_I x1 (x := 70) (by decide)]
      exact dv.2.2.1 i j hi hj
    refine ⟨X_k65 m1, t_Db_addPairs (r := r) (n := n) m1 hN hw (show L - l ≤ 4 by omega) (show L - (l + 1) ≤ 4 by omega) (by omega) (ok l (by omega)) dp (d1 _) (fun s2 x2 d2 => ?_)⟩
    have m2 := fx_XS x2.1 m1
    have x3 : Fx [65, 66, 67, 68, 69, 70] [] s s2 := fx_trans (fx_mono x1 (by simp) (by simp)) (fx_mono x2.1 (by simp) (by simp))
    rw [X_r65_1 m2, X_n66 m2, ix_nI (by omega), nI_1, d2.2.1]
    have dk2 : DK b L w s2 := DK_eq (DK_eq dk e1) x2.2.2
    refine ⟨X_k65 m2, X_k66 m2, vp_in_nI (by omega) (by omega), ih _ ⟨fx_trans x (fx_trans x3 (fx_sI _ _ (by simp))), ?_, fun q hq2 => ?_, ?_⟩⟩
    · exact DK_eq dk2 (fun k _ => by rw [gI_sI, if_neg (fun q => absurd q.1 (by decide))])
    · rw [gI_sI]
      by_cases g : q = l + 1
      · rw [if_pos ⟨rfl, g⟩, g]
        rfl
      · rw [if_neg (fun q2 => g q2.2), fx_I x2.1 (x := 66) (by decide), fx_I x1 (x := 66) (by decide)]
        exact sz q (by omega)
    · have x4 : Fx [66] [] s2 (sI s2 66 (l + 1) (nI (dpI (nrK f w (2 ^ (L - (l + 1)))) (lev f r n L w l) (lev f r n L w l).length).length)) := fx_sI _ _ (by simp)
      unfold DV LH
      rw [fx_I x4 (x := 67) (by decide), fx_I x4 (x := 68) (by decide), fx_I x4 (x := 65) (by decide), fx_I x4 (x := 69) (by decide), fx_I x4 (x := 70) (by decide)]
      exact d2
theorem t_Db_raise_B38 {f : Nat → Int32} {r n b L w : Nat} {Q : Hp → Prop} (c0 : CN f r n h) (hb : gI h 21 3 = nI b) (hL : L ≤ 4) (hw : w ≤ 3) (hq : ∀ h', Fx [65, 66, 67, 68, 69, 70] [] h h' → VD f r n L w h' → DK b L w h' → Q h') : w_Db_raise_B38 Q 65 (nI L) (nI w) h := by
  have m := c0.1
  have hn := c0.2.1.2.2.2.2.2
  have hF := c0.2.2.2.1
  have hN := c0.2.2.2.2.1
  have hZ := c0.2.2.2.2.2.2.1
  unfold w_Db_raise_B38
  have e3 : gI (sI h 65 7 1) 21 3 = nI b := by rw [gI_sI, if_neg (fun q => absurd q.1 (by decide))]; exact hb
  rw [X_r65_0 m, e3]
  refine ⟨X_k65 m, X_k21 m, ?_⟩
  have x0 : Fx [65] [] h (sI (sI (sI (sI h 65 7 1) 65 8 (nI b)) 65 9 (nI L)) 65 10 (nI w)) := fx_trans (fx_trans (fx_trans (fx_sI _ _ (by simp)) (fx_sI _ _ (by simp))) (fx_sI _ _ (by simp))) (fx_sI _ _ (by simp))
  have k0 : DK b L w (sI (sI (sI (sI h 65 7 1) 65 8 (nI b)) 65 9 (nI L)) 65 10 (nI w)) := by
    refine ⟨?_, ?_, ?_, ?_⟩
    · rw [gI_sI, if_neg (by decide), gI_sI, if_neg (by decide), gI_sI, if_neg (by decide), gI_sI, if_pos ⟨rfl, rfl⟩]
    · rw [gI_sI, if_neg (by decide), gI_sI, if_neg (by decide), gI_sI, if_pos ⟨rfl, rfl⟩]
    · rw [gI_sI, if_neg (by decide), gI_sI, if_pos ⟨rfl, rfl⟩]
    · rw [gI_sI, if_pos ⟨rfl, rfl⟩]
  revert x0 k0
  generalize sI (sI (sI (sI h 65 7 1) 65 8 (nI b)) 65 9 (nI L)) 65 10 (nI w) = h0
  intro x0 k0
  have cn0 := CN_fx c0 x0 (by decide) (by decide)
  refine t_Db_beginLevel cn0 hw hL (fun h1 x1 e1 d1 => ?_)
  have cn1 := CN_fx cn0 x1 (by decide) (by decide)
  have m1 := cn1.1
  have k1 := DK_eq k0 e1
  obtain ⟨up0, up1, up2⟩ := upk_kNo (x := 60) (y := 60) (z := 60) (by omega) (by omega)
  refine ⟨X_k65 m1, t_Db_addSum (r := r) (b := 0) (k := kNo 60 60 60) m1 hN hw hL (by omega) (by decide) (d1 0) ⟨List.nodup_nil, fun k hk => absurd hk List.not_mem_nil⟩ (by decide) (fun j _ _ => Zk_0 j) (fun j hj => ?_) (by rw [up0]; rfl) (by rw [up1]; rfl) (by rw [up2]; rfl) (fun h2 x2 d2 => ?_)⟩
  · match j, hj with
    | 0, _ => rw [up0]; decide
    | 1, _ => rw [up1]; decide
    | 2, _ => rw [up2]; decide
  have cn2 := CN_fx cn1 x2.1 (by decide) (by decide)
  have k2 := DK_eq k1 x2.2.2
  have x02 : Fx [65, 66, 67, 68, 69, 70] [] h h2 := fx_trans (fx_mono x0 (by simp) (by simp)) (fx_trans (fx_mono x1 (by simp) (by simp)) (fx_mono x2.1 (by simp) (by simp)))
  refine loop_0 (fun k c s => w_Db_raise_L80 Q 65 (nI L) (nI w) k (nI c) s) (fun c s => DF 0 h2 s ∧ DV f w (2 ^ L) 0 (lev0 f r (nrK f w (2 ^ L)) c) s) n h2 ⟨DF_refl _ _, d2⟩ ?_ ?_
  · rintro k s ⟨x, dv⟩
    have cs := CN_fx cn2 x.1 (by decide) (by decide)
    have ms := cs.1
    unfold w_Db_raise_L80
    rw [X_r65_0 ms, X_r65_1 ms, X_n66 ms, cs.2.1.2.2.1, show ix (0 : Int32) = 0 from rfl, dv.2.1]
    refine ⟨X_k65 ms, X_k21 ms, fun _ => ⟨X_k66 ms, vp_in_nI (n := 0) (by omega) (by omega), ?_⟩, fun z => absurd (Int32.le_refl _) z⟩
    have x4 : Fx [66] [] s (sI s 66 0 (nI (lev0 f r (nrK f w (2 ^ L)) n).length)) := fx_sI _ _ (by simp)
    have x5 : Fx [65, 66, 67, 68, 69, 70] [] h (sI s 66 0 (nI (lev0 f r (nrK f w (2 ^ L)) n).length)) := fx_trans x02 (fx_trans (fx_mono x.1 (by simp) (by simp)) (fx_mono x4 (by simp) (by simp)))
    refine t_Db_levels (b := b) (CN_fx cs x4 (by decide) (by decide)) hL hw ?_ ?_ ?_ (fun h' x6 v6 k6 => hq h' (fx_trans x5 x6) v6 k6)
    · exact DK_eq (DK_eq k2 x.2.2) (fun k _ => by rw [gI_sI, if_neg (fun q => absurd q.1 (by decide))])
    · rw [gI_sI, if_pos ⟨rfl, rfl⟩]
      rfl
    · unfold DV LH
      rw [fx_I x4 (x := 67) (by decide), fx_I x4 (x := 68) (by decide), fx_I x4 (x := 65) (by decide), fx_I x4 (x := 69) (by decide), fx_I x4 (x := 70) (by decide)]
      exact dv
  · rintro k c s hc ⟨x, dv⟩ ih
    have cs := CN_fx cn2 x.1 (by decide) (by decide)
    have ms := cs.1
    have e22 : ∀ j, gI s (21 + 1) j = f j := fun j => by rw [show gI s (21 + 1) = f from cs.2.2.1]
    have ko := kst0_ok hF hZ hn hc
    have u1 := fun j (hj : j < 3) => upk_1 (r := r) hF hc hj
    have uu : ∀ j, j < 3 → f (3 * c + j) = of60 (upk (kst f r (kNo 60 60 60) c) j) ∧ upk (kst f r (kNo 60 60 60) c) j < 121 := fun j hj => by
      have := u1 j hj
      refine ⟨?_, by omega⟩
      rw [← Int32.toInt_inj, of60_toInt (by omega)]
      exact (ko.2.1 j hj).symm
    unfold w_Db_raise_L80
    rw [X_r65_0 ms, cs.2.1.2.2.1]
    refine ⟨X_k65 ms, X_k21 ms, fun z => absurd z (nI_ge hc (by omega)), fun _ => t_Co_numberOf (k := 0) (CO_21 ms) (by omega) ⟨X_k65 ms, ?_⟩⟩
    rw [X_r65_0 ms]
    refine ⟨X_k21 ms, t_Co_numberOf (k := 1) (CO_21 ms) (by omega) ⟨X_k65 ms, ?_⟩⟩
    rw [X_r65_0 ms]
    refine ⟨X_k21 ms, t_Co_numberOf (k := 2) (CO_21 ms) (by omega) ⟨X_k65 ms, ?_⟩⟩
    rw [e22, e22, e22, nI_1]
    exact t_Db_addSum (r := r) (b := 0) (k := kst f r (kNo 60 60 60) c) ms hN hw hL (by omega) (by decide) dv (dOK_0 hF hZ hn c (by omega)) ko.1 ko.2.2 (fun j hj => (uu j hj).2) (uu 0 (by omega)).1 (uu 1 (by omega)).1 (uu 2 (by omega)).1 (fun s3 x3 d3 => ih s3 ⟨DF_trans x x3, d3⟩)
theorem t_Db_raise {f : Nat → Int32} {r n b L w : Nat} {Q : Hp → Prop} (c0 : CN f r n h) (hb : gI h 21 3 = nI b) (hb2 : b < 2 ^ 31) (kd : KD f r n b h) (hL : L ≤ 4) (hw : w ≤ 3) (hq : ∀ h', Fx [65, 66, 67, 68, 69, 70] [] h h' → VD f r n L w h' → KD f r n b h' → Q h') : w_Db_raise 65 (nI L) (nI w) h Q := by
  have m := c0.1
  have anew := t_Db_raise_B38 (Q := Q) c0 hb hL hw (fun h' x v k => hq h' x v (Or.inr ⟨b, L, w, Nat.le_refl _, hL, hw, k.2.1, k.2.2.1, k.2.2.2, fun _ => v⟩))
  unfold w_Db_raise
  rw [X_r65_0 m, hb]
  refine ⟨X_k65 m, fun _ => anew, fun z => ⟨X_k21 m, fun z1 => ⟨fun z2 => ⟨fun z3 => ?_, fun _ => anew⟩, fun _ => anew⟩, fun _ => anew⟩⟩
  rcases kd with k | ⟨a, L', w', k1, k2, k3, k4, k5, k6, k7⟩
  · exact absurd k z
  · rw [k4] at z1
    rw [k5] at z2
    rw [k6] at z3
    have ea : a = b := (nI_eq (by omega) (by omega)).mp z1
    have eL : L' = L := (nI_eq (by omega) (by omega)).mp z2
    have ew : w' = w := (nI_eq (by omega) (by omega)).mp z3
    subst eL ew
    exact hq h (fx_refl _ _ _) (k7 ea) (Or.inr ⟨a, L', w', k1, k2, k3, k4, k5, k6, k7⟩)
theorem t_X_doubled {f : Nat → Int32} {r n b : Nat} {l w v : Int32} {Q : Int32 → Hp → Prop} (c0 : CN f r n h) (hb : gI h 21 3 = nI b) (hb2 : b < 2 ^ 31) (kd : KD f r n b h)
    (hq0 : ((decide (0 ≤ l) && decide (l ≤ 4)) && ((decide (0 ≤ w) && decide (w ≤ 3)) && ((decide (0 ≤ v) && decide (v ≤ 5)) && (decide (5 ≤ v) || decide (v ≤ l))))) = false → Q (-1) h)
    (hq : ∀ h' L w', L ≤ 4 → w' ≤ 3 → l = nI L → w = nI w' → Fx [65, 66, 67, 68, 69, 70] [] h h' → KD f r n b h' → (v = 5 → Q (b2i ((lev f r n L w' L).any (fun k => ndZ f r (Zk k)))) h') ∧ ∀ x, x ≤ L → v = nI x → Q (nI (lev f r n L w' x).length) h') : w_X_doubled 16 l w v h Q := by
  have m := c0.1
  unfold w_X_doubled
  refine ⟨fun z => hq0 ?_, fun z1 => ⟨fun z => hq0 ?_, fun z2 => ⟨fun z => hq0 ?_, fun z3 => ⟨fun z => hq0 ?_, fun z4 => ⟨fun z => hq0 ?_, fun z5 => ⟨fun z6 => ?_, fun z => hq0 ?_⟩⟩⟩⟩⟩⟩
  · rw [decide_eq_false (p := 0 ≤ l) (Int32.not_le.mpr z)]; rfl
  · rw [decide_eq_false (p := l ≤ 4) (Int32.not_le.mpr z), Bool.and_false]; rfl
  · rw [decide_eq_false (p := 0 ≤ w) (Int32.not_le.mpr z), Bool.false_and, Bool.false_and, Bool.and_false]
  · rw [decide_eq_false (p := w ≤ 3) (Int32.not_le.mpr z), Bool.and_false, Bool.false_and, Bool.and_false]
  · rw [decide_eq_false (p := 0 ≤ v) (Int32.not_le.mpr z), Bool.false_and, Bool.false_and, Bool.and_false, Bool.and_false]
  · have i1 : (decide (0 ≤ l) && decide (l ≤ 4)) = true := by rw [decide_eq_true (p := 0 ≤ l) (Int32.not_lt.mp z1), decide_eq_true (p := l ≤ 4) (Int32.not_lt.mp z2)]; rfl
    have i2 : (decide (0 ≤ w) && decide (w ≤ 3)) = true := by rw [decide_eq_true (p := 0 ≤ w) (Int32.not_lt.mp z3), decide_eq_true (p := w ≤ 3) (Int32.not_lt.mp z4)]; rfl
    have i3 : (decide (0 ≤ v) && decide (v ≤ 5)) = true := by rw [decide_eq_true (p := 0 ≤ v) (Int32.not_lt.mp z5), decide_eq_true z6]; rfl
    obtain ⟨L, hL, eL⟩ := in_nI (k := 4) (v := l) (M := 4) rfl (by rw [i1]; decide)
    obtain ⟨w', hw, ew⟩ := in_nI (k := 3) (v := w) (M := 3) rfl (by rw [i2]; decide)
    obtain ⟨x, hx, ex⟩ := in_nI (k := 5) (v := v) (M := 5) rfl (by rw [i3]; decide)
    have main : (x = 5 ∨ x ≤ L) → w_X_doubled_B41 Q 16 l w v h := by
      intro hxx
      unfold w_X_doubled_B41
      rw [X_r16_12 m, eL, ew]
      refine ⟨X_k16 m, X_k65 m, t_Db_raise c0 hb hb2 kd hL hw (fun h2 x2 v2 k2 => ?_)⟩
      have m2 := fx_XS x2 m
      have hq := hq h2 L w' hL hw eL ew x2 k2
      rw [X_r16_12 m2]
      refine ⟨fun z => ⟨X_k16 m2, X_k65 m2, fun z8 => ?_, fun z8 => ?_⟩, fun z => ⟨X_k16 m2, X_k65 m2, ?_⟩⟩
      · have := hq.1 z
        rw [v2.2] at z8
        have e0 : hasN f r n L w' = false := by
          cases e : hasN f r n L w' with
          | false => rfl
          | true => rw [e] at z8; exact absurd z8 (by decide)
        unfold hasN at e0
        rw [e0] at this
        exact this
      · have := hq.1 z
        rw [v2.2] at z8
        have e0 : hasN f r n L w' = true := by
          cases e : hasN f r n L w' with
          | true => rfl
          | false => rw [e] at z8; exact absurd rfl z8
        unfold hasN at e0
        rw [e0] at this
        exact this
      · have hx2 : x ≤ L := by
          rcases hxx with g | g
          · exact absurd (by rw [ex, g]; rfl) z
          · exact g
        unfold w_Db_sizeOf
        rw [X_r65_1 m2, X_n66 m2, ex, ix_nI (by omega), v2.1 x hx2]
        exact ⟨X_k65 m2, X_k66 m2, vp_in_nI (by omega) (by omega), hq.2 x hx2 ex⟩
    refine ⟨fun z7 => main (Or.inl ?_), fun z7 => ⟨fun z8 => main (Or.inr ?_), fun z8 => hq0 ?_⟩⟩
    · rw [ex] at z7
      have := (nI_leI (a := 5) (by omega) (by omega)).mp z7
      omega
    · rw [ex, eL] at z8
      exact (nI_leI (by omega) (by omega)).mp z8
    · rw [decide_eq_false z7, decide_eq_false z8, Bool.or_false, Bool.and_false, Bool.and_false, Bool.and_false]
  · rw [decide_eq_false (p := v ≤ 5) z, Bool.and_false, Bool.false_and, Bool.and_false, Bool.and_false]
