/-! One step of a sum, with its offset -/
theorem nI_addv {x : Nat} {v : Int32} (hx : x < 1000) (h1 : -5 ≤ v.toInt) (h2 : v.toInt ≤ 5) (h3 : 5 ≤ x) : nI x + v = nI ((x : Int) + v.toInt).toNat := by
  rw [← Int32.toInt_inj, Jvm.Kit.i32_add (by rw [nI_toInt (by omega)]; omega) (by rw [nI_toInt (by omega)]; omega), nI_toInt (by omega), nI_toInt (by omega)]
  omega
theorem of60_add {x : Nat} {v : Int32} (hx : x < 1000) (h1 : -5 ≤ v.toInt) (h2 : v.toInt ≤ 5) (h3 : 5 ≤ x) : of60 x + v = of60 ((x : Int) + v.toInt).toNat := by
  unfold of60
  rw [← nI_addv hx h1 h2 h3, Int32.sub_eq_add_neg, Int32.sub_eq_add_neg, Int32.add_assoc, Int32.add_assoc, Int32.add_comm v]
