/-! The class tells of its exchange -/
variable {h : Hp}
theorem t_Ex_shiftOf {f : Nat → Int32} {n : Nat} {d : CT} {c : Nat} {Q : Int32 → Hp → Prop} (m : XS h) (e : EX f n (xS n 4) h) (hn : n ≤ 8) (y : YB f n h (some d)) (h1 : d.2.2.1 < xS n 4) (h2 : d.2.2.2 < xS n 4) (hc : c < 8) (hq : Q (nI (xT (xM n d.2.2.2) c) - nI (xT (xM n d.2.2.1) c)) h) : w_Ex_shiftOf 60 (nI c) h Q := by
  have l4 := xS_le n hn 4 (by omega)
  obtain ⟨-, -, -, y4, y5⟩ := y
  unfold w_Ex_shiftOf
  rw [y5]
  refine ⟨X_k60 m, t_Ex_times m e hn l4 h2 hc ?_⟩
  rw [y4]
  exact ⟨X_k60 m, t_Ex_times m e hn l4 h1 hc hq⟩
/-- both sides' best exchange is one -/
theorem ex_same {f : Nat → Int32} {r n mo : Nat} {x : XT} (hn : n ≤ 8) (hmo : mo ≤ 3) (hx : x.1 = 0 ∧ x.2.1 = -1) (v : VE f r n mo h) : ∃ o, YB f n h o ∧ RX f n (exA f r n mo x (mo + 1)) o ∧ Bst (gm f n) (okX f r n mo) o := by
  obtain ⟨-, o, y, b⟩ := v
  obtain ⟨o', x', b'⟩ := ex_best (f := f) (r := r) (x := x) hn hmo hx
  rw [← Bst_un b b'] at x'
  exact ⟨o, y, x', b⟩
theorem ex_gain {f : Nat → Int32} {r n mo : Nat} {x : XT} (hn : n ≤ 8) (hmo : mo ≤ 3) (hx : x.1 = 0 ∧ x.2.1 = -1) (v : VE f r n mo h) : gI h 60 8 = (exA f r n mo x (mo + 1)).1 := by
  obtain ⟨o, y, z, -⟩ := ex_same hn hmo hx v
  cases o with
  | none => exact Eq.trans y z.1.symm
  | some c => exact Eq.trans y.1 z.1.symm
