/-! The class's reader: a whole text -/
variable {h : Hp}
theorem rd_five : gI (sI (sI (sI (sI (sI h 23 4 0) 23 5 0) 23 6 0) 23 7 (-1)) 17 4 0) 23 4 = 0 ∧ gI (sI (sI (sI (sI (sI h 23 4 0) 23 5 0) 23 6 0) 23 7 (-1)) 17 4 0) 23 5 = 0 ∧ gI (sI (sI (sI (sI (sI h 23 4 0) 23 5 0) 23 6 0) 23 7 (-1)) 17 4 0) 23 6 = 0 ∧ gI (sI (sI (sI (sI (sI h 23 4 0) 23 5 0) 23 6 0) 23 7 (-1)) 17 4 0) 23 7 = -1 ∧ gI (sI (sI (sI (sI (sI h 23 4 0) 23 5 0) 23 6 0) 23 7 (-1)) 17 4 0) 17 4 = nI 0 ∧ gI (sI (sI (sI (sI (sI h 23 4 0) 23 5 0) 23 6 0) 23 7 (-1)) 17 4 0) 17 1 = gI h 17 1 := by
  refine ⟨?_, ?_, ?_, ?_, ?_, ?_⟩
  · rw [gI_sI, if_neg (by decide), gI_sI, if_neg (by decide), gI_sI, if_neg (by decide), gI_sI, if_neg (by decide), gI_sI, if_pos ⟨rfl, rfl⟩]
  · rw [gI_sI, if_neg (by decide), gI_sI, if_neg (by decide), gI_sI, if_neg (by decide), gI_sI, if_pos ⟨rfl, rfl⟩]
  · rw [gI_sI, if_neg (by decide), gI_sI, if_neg (by decide), gI_sI, if_pos ⟨rfl, rfl⟩]
  · rw [gI_sI, if_neg (by decide), gI_sI, if_pos ⟨rfl, rfl⟩]
  · rw [gI_sI, if_pos ⟨rfl, rfl⟩]
    rfl
  · rw [gI_sI, if_neg (by decide), gI_sI, if_neg (by decide), gI_sI, if_neg (by decide), gI_sI, if_neg (by decide), gI_sI, if_neg (by decide)]
theorem t_Rd_read {B : Nat → Int32} {N : Nat} {Q : Bool → Hp → Prop} (m : XS h) (o : TY B N h) (hqE : ∀ e h', prog B N = .error e → EE e h h' → Q false h') (hqO : ∀ s h', prog B N = .ok s → AY B N h s h' → Q true h') : w_Rd_read 23 h Q := by
  unfold w_Rd_read
  rw [X_r23_1 m]
  refine ⟨X_k23 m, X_k24 m, t_Co_clear (CO_24 m) ?_⟩
  have x1 : Fx [24, 25] [] h (sI (sI (sI (sA h (24 + 1) (fun j => if j = 35 then 8 else fl (gI h (24 + 1)) 44 0 j)) 24 1 1) 24 2 0) 24 3 (gI h 24 3 + 1)) := fx_trans (fx_sA _ _ (by simp)) (fx_trans (fx_sI _ _ (by simp)) (fx_trans (fx_sI _ _ (by simp)) (fx_sI _ _ (by simp))))
  have e25 : ∀ k, k < 44 → gI (sI (sI (sI (sA h (24 + 1) (fun j => if j = 35 then 8 else fl (gI h (24 + 1)) 44 0 j)) 24 1 1) 24 2 0) 24 3 (gI h 24 3 + 1)) 25 k = if k = 35 then 8 else 0 := fun k hk => by
    rw [gI_sI, if_neg (fun q => absurd q.1 (by decide)), gI_sI, if_neg (fun q => absurd q.1 (by decide)), gI_sI, if_neg (fun q => absurd q.1 (by decide)), gI_sA, if_pos rfl]
    unfold fl
    rw [if_pos hk]
  have e241 : gI (sI (sI (sI (sA h (24 + 1) (fun j => if j = 35 then 8 else fl (gI h (24 + 1)) 44 0 j)) 24 1 1) 24 2 0) 24 3 (gI h 24 3 + 1)) 24 1 = nI 1 := by rw [gI_sI, if_neg (by decide), gI_sI, if_neg (by decide), gI_sI, if_pos ⟨rfl, rfl⟩]; rfl
  have e242 : gI (sI (sI (sI (sA h (24 + 1) (fun j => if j = 35 then 8 else fl (gI h (24 + 1)) 44 0 j)) 24 1 1) 24 2 0) 24 3 (gI h 24 3 + 1)) 24 2 = nI 0 := by rw [gI_sI, if_neg (by decide), gI_sI, if_pos ⟨rfl, rfl⟩]; rfl
  generalize sI (sI (sI (sA h (24 + 1) (fun j => if j = 35 then 8 else fl (gI h (24 + 1)) 44 0 j)) 24 1 1) 24 2 0) 24 3 (gI h 24 3 + 1) = h1 at x1 e25 e241 e242 ⊢
  have m1 := fx_XS x1 m
  rw [X_r23_0 m1]
  refine ⟨X_k23 m1, X_k17 m1, ?_⟩
  unfold w_Tp_rewind
  have x2 : Fx [17, 23] [] h1 (sI (sI (sI (sI (sI h1 23 4 0) 23 5 0) 23 6 0) 23 7 (-1)) 17 4 0) := fx_trans (fx_sI _ _ (by simp)) (fx_trans (fx_sI _ _ (by simp)) (fx_trans (fx_sI _ _ (by simp)) (fx_trans (fx_sI _ _ (by simp)) (fx_sI _ _ (by simp)))))
  obtain ⟨q4, q5, q6, q7, p4, p1⟩ := rd_five (h := h1)
  refine ⟨X_k17 m1, ?_⟩
  generalize sI (sI (sI (sI (sI h1 23 4 0) 23 5 0) 23 6 0) 23 7 (-1)) 17 4 0 = h2 at x2 q4 q5 q6 q7 p4 p1 ⊢
  have x02 : Fx [17, 23, 24, 25, 26, 27] [] h h2 := fx_trans (fx_mono x1 (by simp) (by simp)) (fx_mono x2 (by simp) (by simp))
  have o2 : TY B N h2 := TY_eq o (by rw [p1, fx_I x1 (by decide)]) (fx_I x02 (by decide))
  refine t_Tp_advance (fx_XS x02 m) o2 p4 (Nat.zero_le _) (fun h3 x3 o3 r3 => ?_)
  have a3 : AY B N h s0L h3 := by
    refine ⟨⟨Nat.zero_le _, Nat.le_refl _, by decide, by decide, fun w hw => absurd hw List.not_mem_nil⟩, fx_trans x02 (fx_mono x3 (by simp) (by simp)), o3, ⟨fun k hk => ?_, ?_, ?_, fun c hc => absurd hc (Nat.not_lt_zero _), ?_, ?_, ?_, ?_⟩, r3⟩
    · rw [fx_I x3 (x := 25) (by decide), fx_I x2 (x := 25) (by decide)]; exact e25 k hk
    · show gI h3 24 1 = nI 1
      rw [fx_I x3 (x := 24) (by decide), fx_I x2 (x := 24) (by decide)]; exact e241
    · show gI h3 24 2 = nI 0
      rw [fx_I x3 (x := 24) (by decide), fx_I x2 (x := 24) (by decide)]; exact e242
    · show gI h3 23 4 = b2i false
      rw [fx_I x3 (x := 23) (by decide)]; exact q4
    · show gI h3 23 5 = b2i false
      rw [fx_I x3 (x := 23) (by decide)]; exact q5
    · rw [fx_I x3 (x := 23) (by decide)]; exact q6
    · rw [fx_I x3 (x := 23) (by decide)]; exact q7
  exact ⟨N + 1, t_Rd_lines m (N + 1) 0 s0L h3 (by omega) (Nat.zero_le _) rfl a3 hqE hqO⟩
