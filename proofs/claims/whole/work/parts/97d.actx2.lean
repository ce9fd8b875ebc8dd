/-! The class turns what is now; takes back; does again -/
variable {h : Hp}
def up (f : Nat → Int32) (s : Nat) (v : Int32) : Nat → Int32 := fun j => if j = s then v else f j
/-- the columns that are now have become f', with some more changes counted -/
def NW (f' : Nat → Int32) (b : Nat) (h h' : Hp) : Prop := Fx [21, 22] [] h h' ∧ gI h' 22 = f' ∧ (∃ b', b < b' ∧ b' ≤ b + 8 ∧ gI h' 21 3 = nI b') ∧ ∀ k, k ≠ 3 → gI h' 21 k = gI h 21 k
theorem NW_put {f : Nat → Int32} {s b : Nat} {v : Int32} (h22 : gI h 22 = f) (hb : gI h 21 3 = nI b) : NW (up f s v) b h (sI (sI h 22 s v) 21 3 (gI h 21 3 + 1)) := by
  refine ⟨fx_trans (fx_sI _ _ (by simp)) (fx_sI _ _ (by simp)), funext (fun j => ?_), ⟨b + 1, by omega, by omega, ?_⟩, fun k hk => ?_⟩
  · unfold up
    rw [gI_sI, if_neg (fun y => absurd y.1 (by decide)), gI_sI, h22]
    by_cases g : j = s
    · rw [if_pos ⟨rfl, g⟩, if_pos g]
    · rw [if_neg (fun y => g y.2), if_neg g]
  · rw [gI_sI, if_pos ⟨rfl, rfl⟩, hb, nI_1]
  · rw [gI_sI, if_neg (fun y => hk y.2), gI_sI, if_neg (fun y => absurd y.1 (by decide))]
theorem t_Ac_shift {F : Nat → Int32} {n q b : Nat} {w : Int32} {Q : Hp → Prop} (m : XS h) (hn : n ≤ 8) (hq2 : q < 20) (h22 : gI h 22 = F) (hb : gI h 21 3 = nI b) (hc : gI h 21 2 = nI n) (hn0 : 0 < n) (hq : ∀ h', NW (fun j => if 36 ≤ j ∧ j < 36 + n then F j + w * gI h 34 (8 * q + (j - 36)) else F j) b h h' → Q h') : ∃ k, w_Ac_apply_L43 Q 30 21 (nI q) w k 0 h := by
  refine loop_0 (fun k i s => w_Ac_apply_L43 Q 30 21 (nI q) w k (nI i) s) (fun i s => Fx [21, 22] [] h s ∧ gI s 22 = (fun j => if 36 ≤ j ∧ j < 36 + i then F j + w * gI h 34 (8 * q + (j - 36)) else F j) ∧ gI s 21 3 = nI (b + i) ∧ ∀ k, k ≠ 3 → gI s 21 k = gI h 21 k) n _ ⟨fx_refl _ _ _, ?_, hb, fun k _ => rfl⟩ ?_ ?_
  · rw [h22]
    funext j
    rw [if_neg (by omega)]
  · rintro k s ⟨x, e1, e2, e3⟩
    unfold w_Ac_apply_L43
    rw [e3 2 (by decide), hc]
    exact ⟨X_k21 (fx_XS x m), fun _ => hq s ⟨x, e1, ⟨b + n, by omega, by omega, e2⟩, e3⟩, fun z => absurd (Int32.le_refl _) z⟩
  · rintro k i s hi ⟨x, e1, e2, e3⟩ ih
    have ms := fx_XS x m
    unfold w_Ac_apply_L43
    rw [e3 2 (by decide), hc]
    refine ⟨X_k21 ms, fun z => absurd z (nI_ge hi (by omega)), fun _ => ?_⟩
    rw [show (36 : Int32) + nI i = nI (36 + i) from nI_add 36 i]
    refine t_Co_get (CO_21 ms) (by omega) ?_
    rw [X_r30_3 ms, X_n34 ms, show (8 : Int32) = nI 8 from rfl, pk_mul, nI_add, ix_nI (n := q * 8 + i) (by omega), nI_1]
    refine ⟨X_k30 ms, X_k34 ms, vp_in_nI (by omega) (by omega), X_k21 ms, t_Co_put (CO_21 ms) (by omega) (ih _ ⟨fx_trans x (fx_trans (fx_sI _ _ (by simp)) (fx_sI _ _ (by simp))), ?_, ?_, fun k hk => ?_⟩)⟩
    · funext j
      rw [gI_sI, if_neg (fun y => absurd y.1 (by decide)), gI_sI]
      show (if 22 = 22 ∧ j = 36 + i then gI s 22 (36 + i) + w * gI s 34 (q * 8 + i) else gI s 22 j) = _
      rw [e1, fx_I x (x := 34) (by decide)]
      dsimp only
      by_cases g : j = 36 + i
      · subst g
        rw [if_pos ⟨rfl, rfl⟩, if_neg (by omega), if_pos (by omega), show 8 * q + (36 + i - 36) = q * 8 + i from by omega]
      · rw [if_neg (fun y => g y.2)]
        by_cases g2 : 36 ≤ j ∧ j < 36 + i
        · rw [if_pos g2, if_pos (by omega)]
        · rw [if_neg g2, if_neg (by omega)]
    · rw [gI_sI, if_pos ⟨rfl, rfl⟩, e2, nI_1, Nat.add_assoc]
    · rw [gI_sI, if_neg (fun y => hk y.2), gI_sI, if_neg (fun y => absurd y.1 (by decide))]
      exact e3 k hk
theorem up_eq {u v : Nat → Int32} {s : Nat} (e : ∀ j, j ≠ s → v j = u j) : up u s (v s) = v := by
  funext j
  unfold up
  by_cases g : j = s
  · rw [if_pos g, g]
  · rw [if_neg g, e j g]
theorem t_Ac_apply {n q b : Nat} {u v : Nat → Int32} {Q : Hp → Prop} (m : XS h) (hn : n ≤ 8) (hq2 : q < 20) (t : AT n q u v h) (hb : gI h 21 3 = nI b) (hc : gI h 21 2 = nI n) (h22 : gI h 22 = u) (hq : ∀ h', NW v b h h' → Q h') : w_Ac_apply 30 21 (nI q) 1 h Q := by
  unfold w_Ac_apply
  rw [X_r30_0 m, X_r30_1 m, X_r30_2 m, ix_nI (by omega), X_n31 m, X_n32 m, X_n33 m]
  refine ⟨X_k30 m, X_k31 m, vp_in_nI (by omega) (by omega), fun z => ?_, fun z => ⟨fun y => absurd y (by decide), fun _ => ⟨X_k33 m, vp_in_nI (by omega) (by omega), ?_⟩⟩⟩
  · rcases t with ⟨s, a1, a2, a3, a4, a5⟩ | ⟨a1, a0, a2⟩
    · rw [a2] at z
      exact absurd z (nI_m1n (by omega))
    · refine t_Ac_shift m hn hq2 h22 hb hc a0 (fun h' a => hq h' ?_)
      have e : (fun j => if 36 ≤ j ∧ j < 36 + n then u j + 1 * gI h 34 (8 * q + (j - 36)) else u j) = v := by
        funext j
        rw [a2 j, Int32.one_mul]
      rw [e] at a
      exact a
  · rcases t with ⟨s, a1, a2, a3, a4, a5⟩ | ⟨a1, a0, a2⟩
    · unfold w_Ac_apply_B36
      rw [a2, a4]
      refine ⟨X_k21 m, t_Co_put (CO_21 m) a1 (hq _ ?_)⟩
      have := NW_put (s := s) (v := v s) h22 hb
      rw [up_eq a5] at this
      exact this
    · exact absurd a1 z
theorem t_Ac_applyM {n q b : Nat} {u v : Nat → Int32} {Q : Hp → Prop} (m : XS h) (hn : n ≤ 8) (hq2 : q < 20) (t : AT n q u v h) (hb : gI h 21 3 = nI b) (hc : gI h 21 2 = nI n) (h22 : gI h 22 = v) (hq : ∀ h', NW u b h h' → Q h') : w_Ac_apply 30 21 (nI q) (-1) h Q := by
  unfold w_Ac_apply
  rw [X_r30_0 m, X_r30_1 m, X_r30_2 m, ix_nI (by omega), X_n31 m, X_n32 m, X_n33 m]
  refine ⟨X_k30 m, X_k31 m, vp_in_nI (by omega) (by omega), fun z => ?_, fun z => ⟨fun _ => ⟨X_k32 m, vp_in_nI (by omega) (by omega), ?_⟩, fun y => absurd (by decide) y⟩⟩
  · rcases t with ⟨s, a1, a2, a3, a4, a5⟩ | ⟨a1, a0, a2⟩
    · rw [a2] at z
      exact absurd z (nI_m1n (by omega))
    · refine t_Ac_shift m hn hq2 h22 hb hc a0 (fun h' a => hq h' ?_)
      have e : (fun j => if 36 ≤ j ∧ j < 36 + n then v j + -1 * gI h 34 (8 * q + (j - 36)) else v j) = u := by
        funext j
        rw [a2 j]
        by_cases g : 36 ≤ j ∧ j < 36 + n
        · rw [if_pos g, if_pos g]
          grind
        · rw [if_neg g, if_neg g]
      rw [e] at a
      exact a
  · rcases t with ⟨s, a1, a2, a3, a4, a5⟩ | ⟨a1, a0, a2⟩
    · unfold w_Ac_apply_B36
      rw [a2, a3]
      refine ⟨X_k21 m, t_Co_put (CO_21 m) a1 (hq _ ?_)⟩
      have := NW_put (s := s) (v := u s) h22 hb
      rw [up_eq (fun j hj => (a5 j hj).symm)] at this
      exact this
    · exact absurd a1 z
