/-! Division downwards -/
variable {h : Hp}
def flE (a b : Int32) : Int32 := if 0 ≤ (a ^^^ b) then a / b else if (a / b) * b = a then a / b else a / b - 1
theorem flE_ok : ∀ T, T < 16 → ∀ x, x < 481 → (flE (nI x - 240) (nI (T + 1))).toInt = ((x : Int) - 240) / ((T : Int) + 1) := by decide +kernel
theorem t_floorDiv {a : Int32} {T : Nat} {Q : Int32 → Hp → Prop} (ha : a.toInt.natAbs ≤ 240) (h0 : 0 < T) (hT : T ≤ 16) (hq : ∀ v : Int32, v.toInt = a.toInt / (T : Int) → Q v h) : w_JM_floorDiv a (nI T) h Q := by
  have ea : a = nI (a.toInt + 240).toNat - 240 := by
    rw [← Int32.toInt_inj, Jvm.Kit.i32_sub (by rw [nI_toInt (by omega), show (240 : Int32).toInt = 240 from rfl]; omega) (by rw [nI_toInt (by omega), show (240 : Int32).toInt = 240 from rfl]; omega), nI_toInt (by omega), show (240 : Int32).toInt = 240 from rfl]
    omega
  have key := flE_ok (T - 1) (by omega) (a.toInt + 240).toNat (by omega)
  rw [← ea, show T - 1 + 1 = T from by omega, show (((a.toInt + 240).toNat : Nat) : Int) - 240 = a.toInt from by omega, show ((T - 1 : Nat) : Int) + 1 = (T : Int) from by omega] at key
  have fin := hq _ key
  unfold flE at fin
  unfold w_JM_floorDiv
  refine ⟨nI_ne0 h0 (by omega), fun z => ?_, fun z => ⟨fun z2 => ?_, fun z2 => ?_⟩⟩
  · rw [if_pos z] at fin
    exact fin
  · rw [if_neg z, if_pos z2] at fin
    exact fin
  · rw [if_neg z, if_neg z2] at fin
    exact fin
