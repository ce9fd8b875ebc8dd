/-! The class's strip: all layers -/
variable {h : Hp}
/-- the choices stand, up to a layer -/
def CI (f : Nat → Int32) (r n t w k ρ a : Nat) (h : Hp) : Prop := ∀ k', k' < k → ∀ s, s ∈ lay f r n t w (k' + 1) → chP a h ((k' + 1) * ρ + cl f r t w (k' + 1) (Zk s)) = bsC f r n t w k' (mz f (Zk s))
theorem TI_SI {f : Nat → Int32} {r n t w k ρ a : Nat} (hr : r ≤ 3) (hF : FB f n) (hN : NB f) (hG : GB f n) (ht : t ≤ 12) (hw : w ≤ 12) (hZ : ZB f r) (hn : n ≤ 8) (hk : k < t) (o : TI f r n t w k ρ a (Dn f r (lay f r n t w k) (lay f r n t w k).length 0) (lay f r n t w (k + 1)) h) : SI f r n t w (k + 1) ρ a h ∧ ∀ s, s ∈ lay f r n t w (k + 1) → chP a h ((k + 1) * ρ + cl f r t w (k + 1) (Zk s)) = bsC f r n t w k (mz f (Zk s)) := by
  obtain ⟨o1, o2, o3⟩ := o
  have key : ∀ s, s ∈ lay f r n t w (k + 1) → gL h a ((k + 1) % 2 * ρ + cl f r t w (k + 1) (Zk s)) = lN (Vk f r n t w (k + 1) (Zk s)) ∧ gI h (a + 1) ((k + 1) % 2 * ρ + cl f r t w (k + 1) (Zk s)) = Rk f r n t w (k + 1) (Zk s) ∧ chP a h ((k + 1) * ρ + cl f r t w (k + 1) (Zk s)) = bsC f r n t w k (mz f (Zk s)) := fun s hs => by
    obtain ⟨p1, p2⟩ := o2 s hs
    have ks := lay_isKy hF (show k + 1 ≤ 12 by omega) hs
    have iz : inZ f r t w (k + 1) (Zk s) = true := (box_in hr (by omega) (fun j h1 h2 => isKy_0 hF (by omega) ks h1 h2)).mp (lay_inB hr hF hN ht hw (k + 1) (by omega) s hs)
    have dn : ∀ c, c < n → Dn f r (lay f r n t w k) (lay f r n t w k).length 0 s c = decide (Vk f r n t w k (bk f (Zk s) c) ≠ 0) := fun c hc => Dn_all hr hF hN ht hw hZ hn hk hs hc
    have ex : ∃ c, c < n ∧ Vk f r n t w k (bk f (Zk s) c) ≠ 0 := ⟨_, p2.1, of_decide_eq_true (by rw [← dn _ p2.1]; exact p2.2.1)⟩
    have b := BM_rz hG (show k < 12 by omega) ex
    have b2 := BM_congr (D' := fun c => decide (Vk f r n t w k (bk f (Zk s) c) ≠ 0)) (g' := fun c => f (24 + c) + Rk f r n t w k (bk f (Zk s) c)) p2 (fun c hc => (dn c hc).symm) (fun _ _ => rfl)
    obtain ⟨e1, e2⟩ := BM_un b2 b
    refine ⟨?_, e1, e2⟩
    rw [p1, Vk_s (by omega), if_pos iz]
    congr 1
    refine smN_congr (fun c hc => ?_)
    rw [dn c hc]
    by_cases g : Vk f r n t w k (bk f (Zk s) c) = 0
    · rw [g]
      split <;> rfl
    · rw [decide_eq_true g, if_pos rfl]
  exact ⟨⟨o1, fun s hs => ⟨(key s hs).1, (key s hs).2.1⟩, o3⟩, fun s hs => (key s hs).2.2⟩
theorem cl_congr {f : Nat → Int32} {r t w k : Nat} {z z' : Nat → Int} (e : ∀ j, j < 3 → z j = z' j) : cl f r t w k z = cl f r t w k z' := by
  unfold cl xs
  rw [e 0 (by omega), e 1 (by omega), e 2 (by omega)]
theorem chP_eq {a : Nat} {h' : Hp} (e : gL h' (a + 3) = gL h (a + 3)) (p : Nat) : chP a h' p = chP a h p := by
  unfold chP
  rw [e]
theorem SI_eq {f : Nat → Int32} {r n t w k ρ a : Nat} {h' : Hp} (o : SI f r n t w k ρ a h) (e1 : gI h' (a + 1) = gI h (a + 1)) (e2 : gI h' (a + 2) = gI h (a + 2)) (e3 : gL h' a = gL h a) : SI f r n t w k ρ a h' := by
  unfold SI at o ⊢
  rw [e1, e2, e3]
  exact o
theorem t_St_readEnd {f : Nat → Int32} {r n t w ρ a : Nat} {Q : Hp → Prop} (c0 : CN f r n h) (rm : RM ρ a h) (hρ1 : ρ ≤ 15625) (hρ : 25 ^ r ≤ ρ) (ht : t ≤ 12) (hw : w ≤ 12) (sb : SB f r t w h) (si : SI f r n t w t ρ a h)
    (hq : ∀ h', Fx [42, 45] [42] h h' → (∀ j, j ≠ 16 → gI h' 42 j = gI h 42 j) → gL h' 42 15 = lN (wz f r n t w t (fun _ => 0)) → (wz f r n t w t (fun _ => 0) ≠ 0 → gI h' 42 16 = rz f r n t w t (fun _ => 0)) → Q h') : w_St_readEnd 42 (nI t) h Q := by
  have m := c0.1
  have hn := c0.2.1.2.2.2.2.2
  have hr1 := c0.2.1.2.2.2.1
  have hr := c0.2.1.2.2.2.2.1
  have hF := c0.2.2.2.1
  have hN := c0.2.2.2.2.1
  have hZ := c0.2.2.2.2.2.2.1
  have ha := rm.2.2.2.2
  have vn := Vk_need (f := f) (r := r) (n := n) (t := t) (w := w)
  have vl := fun q => V_lay hr hF hN ht hw hZ hn t (Nat.le_refl _) (fun j => (f (32 + j)).toInt) (fun j h1 h2 => by rw [(hZ j h1 h2).1]; rfl) q
  unfold w_St_readEnd
  have x1 : Fx [42, 45] [42] h (sI (sL h 42 15 0) 42 16 0) := fx_trans (fx_sL _ _ (by simp)) (fx_sI _ _ (by simp))
  have c1 : CN f r n (sI (sL h 42 15 0) 42 16 0) := CN_fx c0 x1 (by decide) (by decide)
  have o1 : ∀ j, j ≠ 16 → gI (sI (sL h 42 15 0) 42 16 0) 42 j = gI h 42 j := fun j hj => by rw [gI_sI, if_neg (fun q => hj q.2), gI_sL]
  have l1 : gL (sI (sL h 42 15 0) 42 16 0) 42 15 = 0 := by rw [gL_sI, gL_sL, if_pos ⟨rfl, rfl⟩]
  generalize sI (sL h 42 15 0) 42 16 0 = h1 at x1 c1 o1 l1
  refine ⟨X_k42 m, t_St_atNeed c1 (fun h2 x2 at2 => ?_)⟩
  have x12 : Fx [42, 45] [42] h h2 := fx_trans x1 (fx_mono x2 (by simp) (by simp))
  have m2 := fx_XS x12 m
  have o2 : ∀ j, j ≠ 16 → gI h2 42 j = gI h 42 j := fun j hj => by rw [fx_I x2 (x := 42) (by decide)]; exact o1 j hj
  have sb2 : SB f r t w h2 := SB_eq sb (o2 4 (by decide)) (o2 5 (by decide)) (fx_I x12 (by decide)) (fx_I x12 (by decide))
  have rm2 : RM ρ a h2 := RM_fx rm x12 (o2 6 (by decide))
  refine ⟨X_k42 m2, t_St_cellOf (k := t) m2 hN ht hw sb2 (Nat.le_refl _) at2 (fun j hj => by have := hN j hj; omega) (fun g => ?_) (fun ib => ?_)⟩
  · have w0 : wz f r n t w t (fun _ => 0) = 0 := by
      by_cases q : Vk f r n t w t (fun j => (f (32 + j)).toInt) = 0
      · rw [← vn.1]; exact q
      · obtain ⟨s, hs, e⟩ := vl q
        refine absurd (fun j hj => ?_) g
        have := lay_inB (n := n) hr hF hN ht hw t (Nat.le_refl _) s hs j hj
        rw [e j hj] at this
        exact this
    refine ⟨fun _ => hq h2 x12 o2 ?_ (fun q => absurd w0 q), fun z => absurd (by decide) z⟩
    rw [fx_L x2 (x := 42) (by decide), l1, w0]
    rfl
  · have hc := Nat.lt_of_lt_of_le (cl_lt hw hr1 hr ib) hρ
    have hl := half_lt (k := t) hc
    have e7 : gI h2 42 6 = nI ρ := rm2.2.2.2.1
    have ea1 : gI h2 (a + 1) = gI h (a + 1) := fx_I x12 (by simp; omega)
    have ea0 : gL h2 a = gL h a := fx_L x12 (by simp; omega)
    have wv : gL h a (t % 2 * ρ + cl f r t w t (fun j => (f (32 + j)).toInt)) = lN (wz f r n t w t (fun _ => 0)) ∧ (wz f r n t w t (fun _ => 0) ≠ 0 → gI h (a + 1) (t % 2 * ρ + cl f r t w t (fun j => (f (32 + j)).toInt)) = rz f r n t w t (fun _ => 0)) := by
      by_cases q : Vk f r n t w t (fun j => (f (32 + j)).toInt) = 0
      · rw [← vn.1, q]
        refine ⟨si.2.2 _ hc (fun s hs e => ?_), fun z => absurd rfl z⟩
        have e3 := cl_inj (lay_inB (n := n) hr hF hN ht hw t (Nat.le_refl _) s hs) ib e
        have := lay_V hr hF hN ht hw t (Nat.le_refl _) s hs
        rw [Vk_congr (fun j hj => e3 j (by omega))] at this
        exact this q
      · obtain ⟨s, hs, e⟩ := vl q
        have s2 := si.2.1 s hs
        rw [cl_congr e, Vk_congr (fun j hj => e j (by omega)), Rk_congr (fun j hj => e j (by omega)), vn.1, vn.2] at s2
        exact ⟨s2.1, fun _ => s2.2⟩
    refine ⟨fun z => absurd z (nI_nlt (b := 0) (Nat.zero_le _) (by omega)), fun _ => ⟨X_k42 m2, ?_⟩⟩
    unfold w_St_layer
    rw [and1n t (by omega)]
    dsimp only
    rw [rm2.1.1, rm2.1.2.1, e7, pk_mul, nI_add, ix_nI (by omega), gI_sL, e7, pk_mul, nI_add, ix_nI (by omega), ea1, ea0]
    refine ⟨X_k42 m2, rm2.2.1.1, by rw [rm2.2.2.1.1]; exact vp_in_nI hl (by omega), X_k42 m2, rm2.2.1.2.1, by rw [gN_sL, rm2.2.2.1.2.1]; exact vp_in_nI hl (by omega), hq _ (fx_trans x12 (fx_trans (fx_sL _ _ (by simp)) (fx_sI _ _ (by simp)))) (fun j hj => ?_) ?_ (fun z => ?_)⟩
    · rw [gI_sI, if_neg (fun q => hj q.2), gI_sL]
      exact o2 j hj
    · rw [gL_sI, gL_sL, if_pos ⟨rfl, rfl⟩]
      exact wv.1
    · rw [gI_sI, if_pos ⟨rfl, rfl⟩]
      exact wv.2 z
theorem halves {k ρ : Nat} {g : Nat → Int64} (h1 : ∀ y, y < ρ → g (k % 2 * ρ + y) = 0) (h2 : ∀ y, y < ρ → g ((k + 1) % 2 * ρ + y) = 0) : ∀ y, y < 2 * ρ → g y = 0 := by
  intro y hy
  rcases Nat.mod_two_eq_zero_or_one k with e | e
  · rw [e] at h1
    rw [show (k + 1) % 2 = 1 from by omega] at h2
    by_cases q : y < ρ
    · have := h1 y q
      rwa [show 0 * ρ + y = y from by omega] at this
    · have := h2 (y - ρ) (by omega)
      rwa [show 1 * ρ + (y - ρ) = y from by omega] at this
  · rw [e] at h1
    rw [show (k + 1) % 2 = 0 from by omega] at h2
    by_cases q : y < ρ
    · have := h2 y q
      rwa [show 0 * ρ + y = y from by omega] at this
    · have := h1 (y - ρ) (by omega)
      rwa [show 1 * ρ + (y - ρ) = y from by omega] at this
/-- what a sweep keeps -/
def VS (f : Nat → Int32) (r n t w ρ a : Nat) (h : Hp) : Prop := SB f r t w h ∧ gI h 42 14 = nI (off (lay f r n t w) (t + 1)) ∧ gL h 42 15 = lN (wz f r n t w t (fun _ => 0)) ∧ (wz f r n t w t (fun _ => 0) ≠ 0 → gI h 42 16 = rz f r n t w t (fun _ => 0)) ∧ CI f r n t w t ρ a h ∧ 25 ^ r ≤ ρ
theorem t_St_layers {f : Nat → Int32} {r n t w ρ a bc bs : Nat} {Q : Hp → Prop} (c0 : CN f r n h) (rm : RM ρ a h) (hρ1 : ρ ≤ 15625) (hρ : 25 ^ r ≤ ρ) (ht : t ≤ 12) (hw : w ≤ 12) (sb : SB f r t w h) (si : SI f r n t w 0 ρ a h) (cn : ∀ y, y < ρ → gL h a ((0 + 1) % 2 * ρ + y) = 0) (e14 : gI h 42 14 = nI (lay f r n t w 0).length)
    (hq : ∀ h', Fx [42, 45, a + 1, a + 2] [42, a, a + 3] h h' → (∀ j, j ≠ 14 → j ≠ 16 → gI h' 42 j = gI h 42 j) → VS f r n t w ρ a h' → (∀ y, y < 2 * ρ → gL h' a y = 0) → Q h') : ∃ q, w_St_sweep_L75 Q 42 (nI t) q (nI (lay f r n t w 0).length) 0 bc bs h := by
  have m := c0.1
  have hn := c0.2.1.2.2.2.2.2
  have hr1 := c0.2.1.2.2.2.1
  have hr := c0.2.1.2.2.2.2.1
  have hF := c0.2.2.2.1
  have hN := c0.2.2.2.2.1
  have hG := c0.2.2.2.2.2.1
  have hZ := c0.2.2.2.2.2.2.1
  have ha := rm.2.2.2.2
  have n21 : 21 ∉ [42, 45, a + 1, a + 2] := by simp; omega
  have n22 : 22 ∉ [42, 45, a + 1, a + 2] := by simp; omega
  have n43 : 43 ∉ [42, 45, a + 1, a + 2] := by simp; omega
  have n44 : 44 ∉ [42, 45, a + 1, a + 2] := by simp; omega
  have okl := fun k (hk : k ≤ t) => kOK_lay (t := t) (w := w) (r := r) hF k (by omega)
  have lin := fun k (hk : k ≤ t) s hs => lay_inB (n := n) hr hF hN ht hw k hk s hs
  have lcl : ∀ k, k ≤ t → ∀ s, s ∈ lay f r n t w k → cl f r t w k (Zk s) < ρ := fun k hk s hs => Nat.lt_of_lt_of_le (cl_lt hw hr1 hr (lin k hk s hs)) hρ
  have llen : ∀ k, k ≤ t → (lay f r n t w k).length ≤ ρ := fun k hk => cl_len hr1 hr hw hρ (okl k hk) (lin k hk)
  have z0 : ∀ k, k ≤ t → ∀ s, SI f r n t w k ρ a s → ∀ y, y < ρ → (∀ i, i < (lay f r n t w k).length → cl f r t w k (Zk ((lay f r n t w k).getD i 0)) ≠ y) → gL s a (k % 2 * ρ + y) = 0 := fun k hk s ss y hy g => ss.2.2 y hy (fun x hx => by
    obtain ⟨i, hi, e⟩ := mem_getD (d := 0) hx
    rw [← e]
    exact g i hi)
  refine loop_0 (fun q k st => w_St_sweep_L75 Q 42 (nI t) q (nI (lay f r n t w k).length) (nI k) bc bs st) (fun k st => Fx [42, 45, a + 1, a + 2] [42, a, a + 3] h st ∧ (∀ j, j ≠ 14 → j ≠ 16 → gI st 42 j = gI h 42 j) ∧ SI f r n t w k ρ a st ∧ (∀ y, y < ρ → gL st a ((k + 1) % 2 * ρ + y) = 0) ∧ CI f r n t w k ρ a st ∧ gI st 42 14 = nI (off (lay f r n t w) (k + 1))) t h ⟨fx_refl _ _ _, fun _ _ _ => rfl, si, cn, fun k hk => absurd hk (Nat.not_lt_zero _), ?_⟩ ?_ ?_
  · rw [e14]
    show _ = nI (0 + _)
    rw [Nat.zero_add]
  · rintro q st ⟨x, e42, ss, sc, ci, s14⟩
    have cs := CN_fx c0 x n21 n22
    have ms := cs.1
    have rms := RM_fx rm x (e42 6 (by decide) (by decide))
    have sbs : SB f r t w st := SB_eq sb (e42 4 (by decide) (by decide)) (e42 5 (by decide) (by decide)) (fx_I x n43) (fx_I x n44)
    unfold w_St_sweep_L75
    refine ⟨fun _ => ⟨X_k42 ms, t_St_readEnd cs rms hρ1 hρ ht hw sbs ss (fun h2 x2 o2 l2 g2 => ?_)⟩, fun z => absurd (Int32.le_refl _) z⟩
    have m2 := fx_XS x2 ms
    have ea1 : gI h2 (a + 1) = gI st (a + 1) := fx_I x2 (by simp; omega)
    have ea2 : gI h2 (a + 2) = gI st (a + 2) := fx_I x2 (by simp; omega)
    have ea0 : gL h2 a = gL st a := fx_L x2 (by simp; omega)
    have ea3 : gL h2 (a + 3) = gL st (a + 3) := fx_L x2 (by simp; omega)
    have s2 := SI_eq ss ea1 ea2 ea0
    refine ⟨X_k42 m2, t_St_clear m2 (RM_fx rms x2 (o2 6 (by decide))) hρ1 ht (llen t (Nat.le_refl _)) s2.1 (fun i hi => lcl t (Nat.le_refl _) _ (getD_mem hi)) (z0 t (Nat.le_refl _) h2 s2) (fun h3 x3 c3 d3 => ?_)⟩
    have f42 : ∀ j, j ≠ 16 → gI h3 42 j = gI st 42 j := fun j hj => by rw [fx_I x3 (by simp)]; exact o2 j hj
    refine hq h3 (fx_trans x (fx_trans (fx_mono x2 (by simp) (by simp)) (fx_mono x3 (by simp) (by simp)))) (fun j h1 h2 => (f42 j h2).trans (e42 j h1 h2)) ⟨SB_eq sbs (f42 4 (by decide)) (f42 5 (by decide)) ?_ ?_, (f42 14 (by decide)).trans s14, ?_, fun z => ?_, fun k' hk' s hs => ?_, hρ⟩ (halves c3 (fun y hy => ?_))
    · rw [fx_I x3 (by simp), fx_I x2 (by decide)]
    · rw [fx_I x3 (by simp), fx_I x2 (by decide)]
    · rw [fx_L x3 (x := 42) (by simp; omega)]; exact l2
    · rw [fx_I x3 (by simp)]; exact g2 z
    · rw [chP_eq (fx_L x3 (x := a + 3) (by simp)), chP_eq ea3]
      exact ci k' hk' s hs
    · rw [d3 y hy, ea0]
      exact sc y hy
  · rintro q k st hk ⟨x, e42, ss, sc, ci, s14⟩ ih
    have cs := CN_fx c0 x n21 n22
    have ms := cs.1
    have rms := RM_fx rm x (e42 6 (by decide) (by decide))
    have sbs : SB f r t w st := SB_eq sb (e42 4 (by decide) (by decide)) (e42 5 (by decide) (by decide)) (fx_I x n43) (fx_I x n44)
    unfold w_St_sweep_L75
    refine ⟨fun z => absurd z (nI_ge hk (by omega)), fun _ => ⟨X_k42 ms, t_St_spread cs rms hρ1 hρ ht hw hk sbs ss sc (fun h2 x2 e2 => ?_)⟩⟩
    have m2 := fx_XS x2.1 ms
    have rm2 := RM_LF rms x2
    have s2 := SI_LF ss x2 (llen k (by omega)) (lcl k (by omega))
    obtain ⟨t2, k2⟩ := TI_SI hr hF hN hG ht hw hZ hn hk e2
    refine ⟨X_k42 m2, t_St_clear m2 rm2 hρ1 (by omega) (llen k (by omega)) s2.1 (fun i hi => lcl k (by omega) _ (getD_mem hi)) (z0 k (by omega) h2 s2) (fun h3 x3 c3 d3 => ?_)⟩
    have m3 := fx_XS x3 m2
    have f42 : ∀ j, gI h3 42 j = gI st 42 j := fun j => by rw [fx_I x3 (by simp), fx_I x2.1 (ni3 ha (by omega))]
    have xx : Fx [42, 45, a + 1, a + 2] [42, a, a + 3] h h3 := fx_trans x (fx_trans (fx_mono x2.1 (by simp) (by simp)) (fx_mono x3 (by simp) (by simp)))
    rw [f42 14, s14, nI_add, nI_1 k]
    have r1 : ∀ (b j : Nat), b ≠ 42 → gI (sI h3 42 14 (nI (off (lay f r n t w) (k + 1) + (lay f r n t w (k + 1)).length))) b j = gI h3 b j := fun b j hb => by rw [gI_sI, if_neg (fun q => hb q.1)]
    refine ⟨X_k42 m3, ih _ ⟨fx_trans xx (fx_sI _ _ (by simp)), fun j h1 h2 => ?_, ⟨fun i hi => ?_, fun s hs => ⟨?_, ?_⟩, fun y hy ny => ?_⟩, fun y hy => ?_, fun k' hk' s hs => ?_, ?_⟩⟩
    · rw [gI_sI, if_neg (fun q => h1 q.2), f42 j]
      exact e42 j h1 h2
    · rw [r1 _ _ (by omega), fx_I x3 (by simp)]
      exact t2.1 i hi
    · rw [gL_sI, d3 _ (lcl (k + 1) (by omega) s hs)]
      exact (t2.2.1 s hs).1
    · rw [r1 _ _ (by omega), fx_I x3 (by simp)]
      exact (t2.2.1 s hs).2
    · rw [gL_sI, d3 y hy]
      exact t2.2.2 y hy ny
    · rw [gL_sI, show (k + 1 + 1) % 2 = k % 2 from by omega]
      exact c3 y hy
    · show chP a h3 _ = _
      rw [chP_eq (fx_L x3 (x := a + 3) (by simp))]
      by_cases g : k' = k
      · subst g
        exact k2 s hs
      · have lt := lcl (k' + 1) (by omega) s hs
        have e3 : (k' + 1 + 1) * ρ ≤ (k + 1) * ρ := Nat.mul_le_mul_right _ (by omega)
        have e4 : (k' + 1 + 1) * ρ = (k' + 1) * ρ + ρ := Nat.succ_mul _ _
        rw [x2.2.2 _ (by omega)]
        exact ci k' (by omega) s hs
    · rw [gI_sI, if_pos ⟨rfl, rfl⟩]
      rfl
