theorem gI_sI (h : Hp) (a k : Nat) (v : Int32) (b j : Nat) : gI (sI h a k v) b j = if b = a ∧ j = k then v else gI h b j := rfl
theorem gI_sL (h : Hp) (a k : Nat) (v : Int64) : gI (sL h a k v) = gI h := rfl
theorem gI_sR (h : Hp) (a k v : Nat) : gI (sR h a k v) = gI h := rfl
theorem gI_sA (h : Hp) (a : Nat) (f : Nat → Int32) (b j : Nat) : gI (sA h a f) b j = if b = a then f j else gI h b j := rfl
theorem gI_sB (h : Hp) (a : Nat) (f : Nat → Int64) : gI (sB h a f) = gI h := rfl
theorem gL_sI (h : Hp) (a k : Nat) (v : Int32) : gL (sI h a k v) = gL h := rfl
theorem gL_sL (h : Hp) (a k : Nat) (v : Int64) (b j : Nat) : gL (sL h a k v) b j = if b = a ∧ j = k then v else gL h b j := rfl
theorem gL_sR (h : Hp) (a k v : Nat) : gL (sR h a k v) = gL h := rfl
theorem gL_sA (h : Hp) (a : Nat) (f : Nat → Int32) : gL (sA h a f) = gL h := rfl
theorem gL_sB (h : Hp) (a : Nat) (f : Nat → Int64) (b j : Nat) : gL (sB h a f) b j = if b = a then f j else gL h b j := rfl
theorem gR_sI (h : Hp) (a k : Nat) (v : Int32) : gR (sI h a k v) = gR h := rfl
theorem gR_sL (h : Hp) (a k : Nat) (v : Int64) : gR (sL h a k v) = gR h := rfl
theorem gR_sR (h : Hp) (a k v : Nat) (b j : Nat) : gR (sR h a k v) b j = if b = a ∧ j = k then v else gR h b j := rfl
theorem gR_sA (h : Hp) (a : Nat) (f : Nat → Int32) : gR (sA h a f) = gR h := rfl
theorem gR_sB (h : Hp) (a : Nat) (f : Nat → Int64) : gR (sB h a f) = gR h := rfl
theorem gK_sI (h : Hp) (a k : Nat) (v : Int32) : gK (sI h a k v) = gK h := rfl
theorem gK_sL (h : Hp) (a k : Nat) (v : Int64) : gK (sL h a k v) = gK h := rfl
theorem gK_sR (h : Hp) (a k v : Nat) : gK (sR h a k v) = gK h := rfl
theorem gK_sA (h : Hp) (a : Nat) (f : Nat → Int32) : gK (sA h a f) = gK h := rfl
theorem gK_sB (h : Hp) (a : Nat) (f : Nat → Int64) : gK (sB h a f) = gK h := rfl
theorem gN_sI (h : Hp) (a k : Nat) (v : Int32) : gN (sI h a k v) = gN h := rfl
theorem gN_sL (h : Hp) (a k : Nat) (v : Int64) : gN (sL h a k v) = gN h := rfl
theorem gN_sR (h : Hp) (a k v : Nat) : gN (sR h a k v) = gN h := rfl
theorem gN_sA (h : Hp) (a : Nat) (f : Nat → Int32) : gN (sA h a f) = gN h := rfl
theorem gN_sB (h : Hp) (a : Nat) (f : Nat → Int64) : gN (sB h a f) = gN h := rfl
theorem gX_sI (h : Hp) (a k : Nat) (v : Int32) : gX (sI h a k v) = gX h := rfl
theorem gX_sL (h : Hp) (a k : Nat) (v : Int64) : gX (sL h a k v) = gX h := rfl
theorem gX_sR (h : Hp) (a k v : Nat) : gX (sR h a k v) = gX h := rfl
theorem gX_sA (h : Hp) (a : Nat) (f : Nat → Int32) : gX (sA h a f) = gX h := rfl
theorem gX_sB (h : Hp) (a : Nat) (f : Nat → Int64) : gX (sB h a f) = gX h := rfl
/-- the shape of the reference's object, at 81: its arrays -/
def MS (h : Hp) : Prop := gK h 81 = 12 ∧ (gR h 81 0 = 82 ∧ gK h 82 = 20 ∧ gN h 82 = 700) ∧ (gR h 81 12 = 83 ∧ gK h 83 = 20 ∧ gN h 83 = 44) ∧ (gR h 81 13 = 84 ∧ gK h 84 = 20 ∧ gN h 84 = 44) ∧ (gR h 81 14 = 85 ∧ gK h 85 = 21 ∧ gN h 85 = 8) ∧ (gR h 81 22 = 86 ∧ gK h 86 = 20 ∧ gN h 86 = 44) ∧ (gR h 81 23 = 87 ∧ gK h 87 = 20 ∧ gN h 87 = 880) ∧ (gR h 81 26 = 88 ∧ gK h 88 = 20 ∧ gN h 88 = 8) ∧ (gR h 81 27 = 89 ∧ gK h 89 = 20 ∧ gN h 89 = 8) ∧ (gR h 81 30 = 90 ∧ gK h 90 = 20 ∧ gN h 90 = 6561) ∧ (gR h 81 31 = 91 ∧ gK h 91 = 20 ∧ gN h 91 = 9) ∧ (gR h 81 32 = 92 ∧ gK h 92 = 20 ∧ gN h 92 = 3) ∧ (gR h 81 33 = 93 ∧ gK h 93 = 20 ∧ gN h 93 = 126000) ∧ (gR h 81 34 = 94 ∧ gK h 94 = 20 ∧ gN h 94 = 126000) ∧ (gR h 81 35 = 95 ∧ gK h 95 = 20 ∧ gN h 95 = 15) ∧ (gR h 81 36 = 96 ∧ gK h 96 = 20 ∧ gN h 96 = 262144) ∧ (gR h 81 37 = 97 ∧ gK h 97 = 21 ∧ gN h 97 = 126000) ∧ (gR h 81 42 = 98 ∧ gK h 98 = 20 ∧ gN h 98 = 6000) ∧ (gR h 81 43 = 99 ∧ gK h 99 = 20 ∧ gN h 99 = 6) ∧ (gR h 81 45 = 100 ∧ gK h 100 = 21 ∧ gN h 100 = 15) ∧ (gR h 81 46 = 101 ∧ gK h 101 = 21 ∧ gN h 101 = 8) ∧ (gR h 81 47 = 102 ∧ gK h 102 = 21 ∧ gN h 102 = 8) ∧ (gR h 81 48 = 103 ∧ gK h 103 = 21 ∧ gN h 103 = 8) ∧ (gR h 81 49 = 104 ∧ gK h 104 = 21 ∧ gN h 104 = 8) ∧ (gR h 81 50 = 105 ∧ gK h 105 = 20 ∧ gN h 105 = 8) ∧ (gR h 81 51 = 106 ∧ gK h 106 = 20 ∧ gN h 106 = 3) ∧ (gR h 81 59 = 107 ∧ gK h 107 = 20 ∧ gN h 107 = 8) ∧ (gR h 81 60 = 108 ∧ gK h 108 = 20 ∧ gN h 108 = 8) ∧ (gR h 81 61 = 109 ∧ gK h 109 = 20 ∧ gN h 109 = 8) ∧ (gR h 81 62 = 110 ∧ gK h 110 = 20 ∧ gN h 110 = 3) ∧ (gR h 81 68 = 111 ∧ gK h 111 = 20 ∧ gN h 111 = 20) ∧ (gR h 81 69 = 112 ∧ gK h 112 = 20 ∧ gN h 112 = 60) ∧ (gR h 81 70 = 113 ∧ gK h 113 = 20 ∧ gN h 113 = 20) ∧ (gR h 81 71 = 114 ∧ gK h 114 = 20 ∧ gN h 114 = 20) ∧ (gR h 81 72 = 115 ∧ gK h 115 = 20 ∧ gN h 115 = 20) ∧ (gR h 81 75 = 116 ∧ gK h 116 = 22 ∧ gN h 116 = 9) ∧ (gR h 81 76 = 117 ∧ gK h 117 = 22 ∧ gN h 117 = 369) ∧ (gR h 81 77 = 118 ∧ gK h 118 = 20 ∧ gN h 118 = 88) ∧ (gR h 81 78 = 119 ∧ gK h 119 = 22 ∧ gN h 119 = 2)
theorem M_K {h : Hp} (m : MS h) : gK h 81 = 12 := m.1
theorem M_tape {h : Hp} (m : MS h) : gR h 81 0 = 82 ∧ gK h 82 = 20 ∧ gN h 82 = 700 := m.2.1
theorem M_told {h : Hp} (m : MS h) : gR h 81 12 = 83 ∧ gK h 83 = 20 ∧ gN h 83 = 44 := m.2.2.1
theorem M_toldNow {h : Hp} (m : MS h) : gR h 81 13 = 84 ∧ gK h 84 = 20 ∧ gN h 84 = 44 := m.2.2.2.1
theorem M_names {h : Hp} (m : MS h) : gR h 81 14 = 85 ∧ gK h 85 = 21 ∧ gN h 85 = 8 := m.2.2.2.2.1
theorem M_now {h : Hp} (m : MS h) : gR h 81 22 = 86 ∧ gK h 86 = 20 ∧ gN h 86 = 44 := m.2.2.2.2.2.1
theorem M_past {h : Hp} (m : MS h) : gR h 81 23 = 87 ∧ gK h 87 = 20 ∧ gN h 87 = 880 := m.2.2.2.2.2.2.1
theorem M_plan {h : Hp} (m : MS h) : gR h 81 26 = 88 ∧ gK h 88 = 20 ∧ gN h 88 = 8 := m.2.2.2.2.2.2.2.1
theorem M_best {h : Hp} (m : MS h) : gR h 81 27 = 89 ∧ gK h 89 = 20 ∧ gN h 89 = 8 := m.2.2.2.2.2.2.2.2.1
theorem M_straysFrom {h : Hp} (m : MS h) : gR h 81 30 = 90 ∧ gK h 90 = 20 ∧ gN h 90 = 6561 := m.2.2.2.2.2.2.2.2.2.1
theorem M_weight {h : Hp} (m : MS h) : gR h 81 31 = 91 ∧ gK h 91 = 20 ∧ gN h 91 = 9 := m.2.2.2.2.2.2.2.2.2.2.1
theorem M_sums {h : Hp} (m : MS h) : gR h 81 32 = 92 ∧ gK h 92 = 20 ∧ gN h 92 = 3 := m.2.2.2.2.2.2.2.2.2.2.2.1
theorem M_key {h : Hp} (m : MS h) : gR h 81 33 = 93 ∧ gK h 93 = 20 ∧ gN h 93 = 126000 := m.2.2.2.2.2.2.2.2.2.2.2.2.1
theorem M_rest {h : Hp} (m : MS h) : gR h 81 34 = 94 ∧ gK h 94 = 20 ∧ gN h 94 = 126000 := m.2.2.2.2.2.2.2.2.2.2.2.2.2.1
theorem M_layer {h : Hp} (m : MS h) : gR h 81 35 = 95 ∧ gK h 95 = 20 ∧ gN h 95 = 15 := m.2.2.2.2.2.2.2.2.2.2.2.2.2.2.1
theorem M_found {h : Hp} (m : MS h) : gR h 81 36 = 96 ∧ gK h 96 = 20 ∧ gN h 96 = 262144 := m.2.2.2.2.2.2.2.2.2.2.2.2.2.2.2.1
theorem M_ways {h : Hp} (m : MS h) : gR h 81 37 = 97 ∧ gK h 97 = 21 ∧ gN h 97 = 126000 := m.2.2.2.2.2.2.2.2.2.2.2.2.2.2.2.2.1
theorem M_levelSums {h : Hp} (m : MS h) : gR h 81 42 = 98 ∧ gK h 98 = 20 ∧ gN h 98 = 6000 := m.2.2.2.2.2.2.2.2.2.2.2.2.2.2.2.2.2.1
theorem M_levelFrom {h : Hp} (m : MS h) : gR h 81 43 = 99 ∧ gK h 99 = 20 ∧ gN h 99 = 6 := m.2.2.2.2.2.2.2.2.2.2.2.2.2.2.2.2.2.2.1
theorem M_grid {h : Hp} (m : MS h) : gR h 81 45 = 100 ∧ gK h 100 = 21 ∧ gN h 100 = 15 := m.2.2.2.2.2.2.2.2.2.2.2.2.2.2.2.2.2.2.2.1
theorem M_upper {h : Hp} (m : MS h) : gR h 81 46 = 101 ∧ gK h 101 = 21 ∧ gN h 101 = 8 := m.2.2.2.2.2.2.2.2.2.2.2.2.2.2.2.2.2.2.2.2.1
theorem M_lower {h : Hp} (m : MS h) : gR h 81 47 = 102 ∧ gK h 102 = 21 ∧ gN h 102 = 8 := m.2.2.2.2.2.2.2.2.2.2.2.2.2.2.2.2.2.2.2.2.2.1
theorem M_cornerUpper {h : Hp} (m : MS h) : gR h 81 48 = 103 ∧ gK h 103 = 21 ∧ gN h 103 = 8 := m.2.2.2.2.2.2.2.2.2.2.2.2.2.2.2.2.2.2.2.2.2.2.1
theorem M_cornerLower {h : Hp} (m : MS h) : gR h 81 49 = 104 ∧ gK h 104 = 21 ∧ gN h 104 = 8 := m.2.2.2.2.2.2.2.2.2.2.2.2.2.2.2.2.2.2.2.2.2.2.2.1
theorem M_chosen {h : Hp} (m : MS h) : gR h 81 50 = 105 ∧ gK h 105 = 20 ∧ gN h 105 = 8 := m.2.2.2.2.2.2.2.2.2.2.2.2.2.2.2.2.2.2.2.2.2.2.2.2.1
theorem M_aim {h : Hp} (m : MS h) : gR h 81 51 = 106 ∧ gK h 106 = 20 ∧ gN h 106 = 3 := m.2.2.2.2.2.2.2.2.2.2.2.2.2.2.2.2.2.2.2.2.2.2.2.2.2.1
theorem M_gone {h : Hp} (m : MS h) : gR h 81 59 = 107 ∧ gK h 107 = 20 ∧ gN h 107 = 8 := m.2.2.2.2.2.2.2.2.2.2.2.2.2.2.2.2.2.2.2.2.2.2.2.2.2.2.1
theorem M_out {h : Hp} (m : MS h) : gR h 81 60 = 108 ∧ gK h 108 = 20 ∧ gN h 108 = 8 := m.2.2.2.2.2.2.2.2.2.2.2.2.2.2.2.2.2.2.2.2.2.2.2.2.2.2.2.1
theorem M_in {h : Hp} (m : MS h) : gR h 81 61 = 109 ∧ gK h 109 = 20 ∧ gN h 109 = 8 := m.2.2.2.2.2.2.2.2.2.2.2.2.2.2.2.2.2.2.2.2.2.2.2.2.2.2.2.2.1
theorem M_goneSum {h : Hp} (m : MS h) : gR h 81 62 = 110 ∧ gK h 110 = 20 ∧ gN h 110 = 3 := m.2.2.2.2.2.2.2.2.2.2.2.2.2.2.2.2.2.2.2.2.2.2.2.2.2.2.2.2.2.1
theorem M_seenSteps {h : Hp} (m : MS h) : gR h 81 68 = 111 ∧ gK h 111 = 20 ∧ gN h 111 = 20 := m.2.2.2.2.2.2.2.2.2.2.2.2.2.2.2.2.2.2.2.2.2.2.2.2.2.2.2.2.2.2.1
theorem M_seenSum {h : Hp} (m : MS h) : gR h 81 69 = 112 ∧ gK h 112 = 20 ∧ gN h 112 = 60 := m.2.2.2.2.2.2.2.2.2.2.2.2.2.2.2.2.2.2.2.2.2.2.2.2.2.2.2.2.2.2.2.1
theorem M_seenIs {h : Hp} (m : MS h) : gR h 81 70 = 113 ∧ gK h 113 = 20 ∧ gN h 113 = 20 := m.2.2.2.2.2.2.2.2.2.2.2.2.2.2.2.2.2.2.2.2.2.2.2.2.2.2.2.2.2.2.2.2.1
theorem M_toldAt {h : Hp} (m : MS h) : gR h 81 71 = 114 ∧ gK h 114 = 20 ∧ gN h 114 = 20 := m.2.2.2.2.2.2.2.2.2.2.2.2.2.2.2.2.2.2.2.2.2.2.2.2.2.2.2.2.2.2.2.2.2.1
theorem M_untoldAt {h : Hp} (m : MS h) : gR h 81 72 = 115 ∧ gK h 115 = 20 ∧ gN h 115 = 20 := m.2.2.2.2.2.2.2.2.2.2.2.2.2.2.2.2.2.2.2.2.2.2.2.2.2.2.2.2.2.2.2.2.2.2.1
theorem M_isFit {h : Hp} (m : MS h) : gR h 81 75 = 116 ∧ gK h 116 = 22 ∧ gN h 116 = 9 := m.2.2.2.2.2.2.2.2.2.2.2.2.2.2.2.2.2.2.2.2.2.2.2.2.2.2.2.2.2.2.2.2.2.2.2.1
theorem M_hasFirst {h : Hp} (m : MS h) : gR h 81 76 = 117 ∧ gK h 117 = 22 ∧ gN h 117 = 369 := m.2.2.2.2.2.2.2.2.2.2.2.2.2.2.2.2.2.2.2.2.2.2.2.2.2.2.2.2.2.2.2.2.2.2.2.2.1
theorem M_boxes {h : Hp} (m : MS h) : gR h 81 77 = 118 ∧ gK h 118 = 20 ∧ gN h 118 = 88 := m.2.2.2.2.2.2.2.2.2.2.2.2.2.2.2.2.2.2.2.2.2.2.2.2.2.2.2.2.2.2.2.2.2.2.2.2.2.1
theorem M_isKept {h : Hp} (m : MS h) : gR h 81 78 = 119 ∧ gK h 119 = 22 ∧ gN h 119 = 2 := m.2.2.2.2.2.2.2.2.2.2.2.2.2.2.2.2.2.2.2.2.2.2.2.2.2.2.2.2.2.2.2.2.2.2.2.2.2.2
theorem MS_sI {h : Hp} {a k : Nat} {v : Int32} : MS (sI h a k v) ↔ MS h := Iff.rfl
theorem MS_sL {h : Hp} {a k : Nat} {v : Int64} : MS (sL h a k v) ↔ MS h := Iff.rfl
theorem MS_sA {h : Hp} {a : Nat} {f : Nat → Int32} : MS (sA h a f) ↔ MS h := Iff.rfl
theorem MS_sB {h : Hp} {a : Nat} {f : Nat → Int64} : MS (sB h a f) ↔ MS h := Iff.rfl
