/-! What the reference tells of a fault -/
variable {h : Hp}
theorem t_M_fault {v : Int32} {Q : Int32 → Hp → Prop} (hM : MS h) (hq : Q (if v = 0 then gI h 81 9 else if v = 1 then gI h 81 10 else -1) h) : w_M_fault 81 v h Q := by
  unfold w_M_fault
  refine ⟨fun z => ⟨M_K hM, ?_⟩, fun z => ⟨fun y => ⟨M_K hM, ?_⟩, fun y => ?_⟩⟩
  · rw [if_pos z] at hq; exact hq
  · rw [if_neg z, if_pos y] at hq; exact hq
  · rw [if_neg z, if_neg y] at hq; exact hq
