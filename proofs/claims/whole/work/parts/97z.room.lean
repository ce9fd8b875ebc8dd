/-! New rows; what stays below 120 -/
variable {h : Hp}
theorem gK_nw (h : Hp) (kd n b : Nat) : gK (nw h kd n) b = if b = gX h then kd else gK h b := rfl
theorem gN_nw (h : Hp) (kd n b : Nat) : gN (nw h kd n) b = if b = gX h then n else gN h b := rfl
theorem gX_nw (h : Hp) (kd n : Nat) : gX (nw h kd n) = gX h + 1 := rfl
theorem gR_nw (h : Hp) (kd n b j : Nat) : gR (nw h kd n) b j = if b = gX h then 0 else gR h b j := rfl
theorem gI_nw (h : Hp) (kd n b j : Nat) : gI (nw h kd n) b j = if b = gX h then 0 else gI h b j := rfl
theorem gL_nw (h : Hp) (kd n b j : Nat) : gL (nw h kd n) b j = if b = gX h then 0 else gL h b j := rfl
def Fz (as js : List Nat) (h h' : Hp) : Prop := gX h ≤ gX h' ∧ (∀ a, a < 120 → gK h' a = gK h a) ∧ (∀ a, a < 120 → gN h' a = gN h a) ∧ (∀ a k, a < 120 → ¬ (a = 35 ∧ k = 6) → ¬ (a = 42 ∧ 7 ≤ k) → gR h' a k = gR h a k) ∧ (∀ a k, a < 120 → a ∉ as → gI h' a k = gI h a k) ∧ ∀ a k, a < 120 → a ∉ js → gL h' a k = gL h a k
theorem fz_refl (as js : List Nat) (h : Hp) : Fz as js h h := ⟨Nat.le_refl _, fun _ _ => rfl, fun _ _ => rfl, fun _ _ _ _ _ => rfl, fun _ _ _ _ => rfl, fun _ _ _ _ => rfl⟩
theorem fz_trans {as js : List Nat} {h h1 h2 : Hp} (a : Fz as js h h1) (b : Fz as js h1 h2) : Fz as js h h2 := ⟨Nat.le_trans a.1 b.1, fun x hx => (b.2.1 x hx).trans (a.2.1 x hx), fun x hx => (b.2.2.1 x hx).trans (a.2.2.1 x hx), fun x k hx h1 h2 => (b.2.2.2.1 x k hx h1 h2).trans (a.2.2.2.1 x k hx h1 h2), fun x k hx h1 => (b.2.2.2.2.1 x k hx h1).trans (a.2.2.2.2.1 x k hx h1), fun x k hx h1 => (b.2.2.2.2.2 x k hx h1).trans (a.2.2.2.2.2 x k hx h1)⟩
theorem fz_fx {as js as' js' : List Nat} {h h' : Hp} (a : Fx as js h h') (h1 : ∀ x ∈ as, x < 120 → x ∈ as') (h2 : ∀ x ∈ js, x < 120 → x ∈ js') : Fz as' js' h h' := ⟨by rw [a.2.2.1]; exact Nat.le_refl _, fun x _ => by rw [a.1], fun x _ => by rw [a.2.1], fun x k _ g _ => a.2.2.2.1 x k g, fun x k hx g => a.2.2.2.2.1 x k (fun q => g (h1 x q hx)), fun x k hx g => a.2.2.2.2.2 x k (fun q => g (h2 x q hx))⟩
theorem fz_mono {as js as' js' : List Nat} {h h' : Hp} (a : Fz as js h h') (h1 : ∀ x ∈ as, x ∈ as') (h2 : ∀ x ∈ js, x ∈ js') : Fz as' js' h h' := ⟨a.1, a.2.1, a.2.2.1, a.2.2.2.1, fun x k hx g => a.2.2.2.2.1 x k hx (fun q => g (h1 x q)), fun x k hx g => a.2.2.2.2.2 x k hx (fun q => g (h2 x q))⟩
theorem fz_I {as js : List Nat} {h h1 : Hp} {x : Nat} (a : Fz as js h h1) (h0 : x < 120) (hx : x ∉ as) : gI h1 x = gI h x := funext (fun k => a.2.2.2.2.1 x k h0 hx)
theorem fz_L {as js : List Nat} {h h1 : Hp} {x : Nat} (a : Fz as js h h1) (h0 : x < 120) (hx : x ∉ js) : gL h1 x = gL h x := funext (fun k => a.2.2.2.2.2 x k h0 hx)
set_option maxRecDepth 4000 in
theorem fz_XS {as js : List Nat} {h1 : Hp} (a : Fz as js h h1) (m : XS h) : XS h1 := by
  have k := a.2.1
  have n := a.2.2.1
  have r := a.2.2.2.1
  unfold XS
  rw [k 16 (by decide), k 17 (by decide), k 18 (by decide), k 19 (by decide), k 20 (by decide), k 21 (by decide), k 22 (by decide), k 23 (by decide), k 24 (by decide), k 25 (by decide), k 26 (by decide), k 27 (by decide), k 28 (by decide), k 29 (by decide), k 30 (by decide), k 31 (by decide), k 32 (by decide), k 33 (by decide), k 34 (by decide), k 35 (by decide), k 36 (by decide), k 37 (by decide), k 38 (by decide), k 39 (by decide), k 40 (by decide), k 41 (by decide), k 42 (by decide), k 43 (by decide), k 44 (by decide), k 45 (by decide), k 50 (by decide), k 51 (by decide), k 52 (by decide), k 53 (by decide), k 54 (by decide), k 55 (by decide), k 56 (by decide), k 57 (by decide), k 58 (by decide), k 59 (by decide), k 60 (by decide), k 61 (by decide), k 62 (by decide), k 63 (by decide), k 64 (by decide), k 65 (by decide), k 66 (by decide), k 67 (by decide), k 68 (by decide), k 69 (by decide), k 70 (by decide), k 71 (by decide), k 72 (by decide), k 73 (by decide), k 74 (by decide), k 75 (by decide), k 76 (by decide), k 77 (by decide), k 78 (by decide), k 79 (by decide), k 80 (by decide), n 18 (by decide), n 20 (by decide), n 22 (by decide), n 25 (by decide), n 26 (by decide), n 27 (by decide), n 28 (by decide), n 29 (by decide), n 31 (by decide), n 32 (by decide), n 33 (by decide), n 34 (by decide), n 36 (by decide), n 37 (by decide), n 38 (by decide), n 39 (by decide), n 40 (by decide), n 41 (by decide), n 43 (by decide), n 44 (by decide), n 45 (by decide), n 51 (by decide), n 52 (by decide), n 53 (by decide), n 54 (by decide), n 55 (by decide), n 57 (by decide), n 58 (by decide), n 59 (by decide), n 61 (by decide), n 62 (by decide), n 63 (by decide), n 64 (by decide), n 66 (by decide), n 67 (by decide), n 68 (by decide), n 69 (by decide), n 70 (by decide), n 72 (by decide), n 73 (by decide), n 74 (by decide), n 75 (by decide), n 76 (by decide), n 78 (by decide), n 80 (by decide), r 16 0 (by decide) (by decide) (by decide), r 16 1 (by decide) (by decide) (by decide), r 16 2 (by decide) (by decide) (by decide), r 16 3 (by decide) (by decide) (by decide), r 16 4 (by decide) (by decide) (by decide), r 16 5 (by decide) (by decide) (by decide), r 16 6 (by decide) (by decide) (by decide), r 16 7 (by decide) (by decide) (by decide), r 16 8 (by decide) (by decide) (by decide), r 16 9 (by decide) (by decide) (by decide), r 16 10 (by decide) (by decide) (by decide), r 16 11 (by decide) (by decide) (by decide), r 16 12 (by decide) (by decide) (by decide), r 16 13 (by decide) (by decide) (by decide), r 16 14 (by decide) (by decide) (by decide), r 17 0 (by decide) (by decide) (by decide), r 19 0 (by decide) (by decide) (by decide), r 21 0 (by decide) (by decide) (by decide), r 23 0 (by decide) (by decide) (by decide), r 23 1 (by decide) (by decide) (by decide), r 23 2 (by decide) (by decide) (by decide), r 23 3 (by decide) (by decide) (by decide), r 24 0 (by decide) (by decide) (by decide), r 28 0 (by decide) (by decide) (by decide), r 28 1 (by decide) (by decide) (by decide), r 30 0 (by decide) (by decide) (by decide), r 30 1 (by decide) (by decide) (by decide), r 30 2 (by decide) (by decide) (by decide), r 30 3 (by decide) (by decide) (by decide), r 35 0 (by decide) (by decide) (by decide), r 35 1 (by decide) (by decide) (by decide), r 35 2 (by decide) (by decide) (by decide), r 35 3 (by decide) (by decide) (by decide), r 35 4 (by decide) (by decide) (by decide), r 35 5 (by decide) (by decide) (by decide), r 42 0 (by decide) (by decide) (by decide), r 42 1 (by decide) (by decide) (by decide), r 42 2 (by decide) (by decide) (by decide), r 42 3 (by decide) (by decide) (by decide), r 50 0 (by decide) (by decide) (by decide), r 50 1 (by decide) (by decide) (by decide), r 50 2 (by decide) (by decide) (by decide), r 50 3 (by decide) (by decide) (by decide), r 50 4 (by decide) (by decide) (by decide), r 50 5 (by decide) (by decide) (by decide), r 50 6 (by decide) (by decide) (by decide), r 56 0 (by decide) (by decide) (by decide), r 56 1 (by decide) (by decide) (by decide), r 56 2 (by decide) (by decide) (by decide), r 56 3 (by decide) (by decide) (by decide), r 60 0 (by decide) (by decide) (by decide), r 60 1 (by decide) (by decide) (by decide), r 60 2 (by decide) (by decide) (by decide), r 60 3 (by decide) (by decide) (by decide), r 60 4 (by decide) (by decide) (by decide), r 65 0 (by decide) (by decide) (by decide), r 65 1 (by decide) (by decide) (by decide), r 65 2 (by decide) (by decide) (by decide), r 65 3 (by decide) (by decide) (by decide), r 65 4 (by decide) (by decide) (by decide), r 65 5 (by decide) (by decide) (by decide), r 71 0 (by decide) (by decide) (by decide), r 71 1 (by decide) (by decide) (by decide), r 71 2 (by decide) (by decide) (by decide), r 71 3 (by decide) (by decide) (by decide), r 71 4 (by decide) (by decide) (by decide), r 71 5 (by decide) (by decide) (by decide), r 77 0 (by decide) (by decide) (by decide), r 79 0 (by decide) (by decide) (by decide)]
  exact m
set_option maxRecDepth 4000 in
theorem fz_MS {as js : List Nat} {h1 : Hp} (a : Fz as js h h1) (m : MS h) : MS h1 := by
  have k := a.2.1
  have n := a.2.2.1
  have r := a.2.2.2.1
  unfold MS
  rw [k 81 (by decide), k 82 (by decide), k 83 (by decide), k 84 (by decide), k 85 (by decide), k 86 (by decide), k 87 (by decide), k 88 (by decide), k 89 (by decide), k 90 (by decide), k 91 (by decide), k 92 (by decide), k 93 (by decide), k 94 (by decide), k 95 (by decide), k 96 (by decide), k 97 (by decide), k 98 (by decide), k 99 (by decide), k 100 (by decide), k 101 (by decide), k 102 (by decide), k 103 (by decide), k 104 (by decide), k 105 (by decide), k 106 (by decide), k 107 (by decide), k 108 (by decide), k 109 (by decide), k 110 (by decide), k 111 (by decide), k 112 (by decide), k 113 (by decide), k 114 (by decide), k 115 (by decide), k 116 (by decide), k 117 (by decide), k 118 (by decide), k 119 (by decide), n 82 (by decide), n 83 (by decide), n 84 (by decide), n 85 (by decide), n 86 (by decide), n 87 (by decide), n 88 (by decide), n 89 (by decide), n 90 (by decide), n 91 (by decide), n 92 (by decide), n 93 (by decide), n 94 (by decide), n 95 (by decide), n 96 (by decide), n 97 (by decide), n 98 (by decide), n 99 (by decide), n 100 (by decide), n 101 (by decide), n 102 (by decide), n 103 (by decide), n 104 (by decide), n 105 (by decide), n 106 (by decide), n 107 (by decide), n 108 (by decide), n 109 (by decide), n 110 (by decide), n 111 (by decide), n 112 (by decide), n 113 (by decide), n 114 (by decide), n 115 (by decide), n 116 (by decide), n 117 (by decide), n 118 (by decide), n 119 (by decide), r 81 0 (by decide) (by decide) (by decide), r 81 12 (by decide) (by decide) (by decide), r 81 13 (by decide) (by decide) (by decide), r 81 14 (by decide) (by decide) (by decide), r 81 22 (by decide) (by decide) (by decide), r 81 23 (by decide) (by decide) (by decide), r 81 26 (by decide) (by decide) (by decide), r 81 27 (by decide) (by decide) (by decide), r 81 30 (by decide) (by decide) (by decide), r 81 31 (by decide) (by decide) (by decide), r 81 32 (by decide) (by decide) (by decide), r 81 33 (by decide) (by decide) (by decide), r 81 34 (by decide) (by decide) (by decide), r 81 35 (by decide) (by decide) (by decide), r 81 36 (by decide) (by decide) (by decide), r 81 37 (by decide) (by decide) (by decide), r 81 42 (by decide) (by decide) (by decide), r 81 43 (by decide) (by decide) (by decide), r 81 45 (by decide) (by decide) (by decide), r 81 46 (by decide) (by decide) (by decide), r 81 47 (by decide) (by decide) (by decide), r 81 48 (by decide) (by decide) (by decide), r 81 49 (by decide) (by decide) (by decide), r 81 50 (by decide) (by decide) (by decide), r 81 51 (by decide) (by decide) (by decide), r 81 59 (by decide) (by decide) (by decide), r 81 60 (by decide) (by decide) (by decide), r 81 61 (by decide) (by decide) (by decide), r 81 62 (by decide) (by decide) (by decide), r 81 68 (by decide) (by decide) (by decide), r 81 69 (by decide) (by decide) (by decide), r 81 70 (by decide) (by decide) (by decide), r 81 71 (by decide) (by decide) (by decide), r 81 72 (by decide) (by decide) (by decide), r 81 75 (by decide) (by decide) (by decide), r 81 76 (by decide) (by decide) (by decide), r 81 77 (by decide) (by decide) (by decide), r 81 78 (by decide) (by decide) (by decide)]
  exact m
theorem fz_CO {as js : List Nat} {h1 : Hp} {c : Nat} (a : Fz as js h h1) (hc : c < 119) (h5 : c ≠ 35) (h6 : c ≠ 42) (m : CO h c) : CO h1 c := by
  unfold CO
  rw [a.2.1 c (by omega), a.2.1 (c + 1) (by omega), a.2.2.1 (c + 1) (by omega), a.2.2.2.1 c 0 (by omega) (fun q => h5 q.1) (fun q => h6 q.1)]
  exact m
theorem CN_fz {f : Nat → Int32} {r n : Nat} {as js : List Nat} {h' : Hp} (a : CN f r n h) (x : Fz as js h h') (h1 : 21 ∉ as) (h2 : 22 ∉ as) : CN f r n h' := by
  obtain ⟨a1, a2, a3, a4, a5, a6, a7, a8⟩ := a
  refine ⟨fz_XS x a1, ⟨fz_CO x (by decide) (by decide) (by decide) a2.1, ?_, ?_, a2.2.2.2⟩, ?_, a4, a5, a6, a7, Nat.le_trans a8 x.1⟩
  · rw [fz_I x (by decide) h1]; exact a2.2.1
  · rw [fz_I x (by decide) h1]; exact a2.2.2.1
  · rw [fz_I x (by decide) h2]; exact a3
/-- a new row whose place is kept in the strip -/
def NA (kd N fd : Nat) (h h2 : Hp) : Prop := gX h2 = gX h + 1 ∧ (∀ b, gK h2 b = if b = gX h then kd else gK h b) ∧ (∀ b, gN h2 b = if b = gX h then N else gN h b) ∧ (∀ b j, gR h2 b j = if b = 42 ∧ j = fd then gX h else if b = gX h then 0 else gR h b j) ∧ (∀ b j, gI h2 b j = if b = gX h then 0 else gI h b j) ∧ ∀ b j, gL h2 b j = if b = gX h then 0 else gL h b j
theorem NA_of {kd N fd : Nat} : NA kd N fd h (sR (nw h kd N) 42 fd (gX h)) := ⟨rfl, fun _ => rfl, fun _ => rfl, fun b j => by rw [gR_sR, gR_nw], fun _ _ => rfl, fun _ _ => rfl⟩
theorem NA_K {kd N fd b : Nat} {h2 : Hp} (a : NA kd N fd h h2) (hb : b ≠ gX h) : gK h2 b = gK h b := by rw [a.2.1, if_neg hb]
theorem NA_N {kd N fd b : Nat} {h2 : Hp} (a : NA kd N fd h h2) (hb : b ≠ gX h) : gN h2 b = gN h b := by rw [a.2.2.1, if_neg hb]
theorem NA_R {kd N fd b j : Nat} {h2 : Hp} (a : NA kd N fd h h2) (hb : b ≠ gX h) (h4 : ¬ (b = 42 ∧ j = fd)) : gR h2 b j = gR h b j := by rw [a.2.2.2.1, if_neg h4, if_neg hb]
theorem NA_I {kd N fd b j : Nat} {h2 : Hp} (a : NA kd N fd h h2) (hb : b ≠ gX h) : gI h2 b j = gI h b j := by rw [a.2.2.2.2.1, if_neg hb]
theorem NA_L {kd N fd b j : Nat} {h2 : Hp} (a : NA kd N fd h h2) (hb : b ≠ gX h) : gL h2 b j = gL h b j := by rw [a.2.2.2.2.2, if_neg hb]
theorem NA_z {kd N fd : Nat} {h2 : Hp} (a : NA kd N fd h h2) (hX : 120 ≤ gX h) (hf : 7 ≤ fd) : Fz [] [] h h2 := ⟨by rw [a.1]; omega, fun b hb => NA_K a (by omega), fun b hb => NA_N a (by omega), fun b j hb _ g => NA_R a (by omega) (fun q => g ⟨q.1, by omega⟩), fun b j hb _ => NA_I a (by omega), fun b j hb _ => NA_L a (by omega)⟩
theorem NA4 {R : Nat} {h0 h1 h2 h3 h4 : Hp} (hX : 120 ≤ gX h0) (e6 : gI h0 42 6 = nI R) (a1 : NA 21 (2 * R) 7 h0 h1) (a2 : NA 20 (2 * R) 8 h1 h2) (a3 : NA 20 (2 * R) 9 h2 h3) (a4 : NA 21 (13 * R / 16 + 1) 10 h3 h4) : Fz [] [] h0 h4 ∧ RM R (gX h0) h4 ∧ (∀ y, gL h4 (gX h0) y = 0) ∧ gX h4 = gX h0 + 4 := by
  have x1 : gX h1 = gX h0 + 1 := a1.1
  have x2 : gX h2 = gX h0 + 2 := by rw [a2.1, x1]
  have x3 : gX h3 = gX h0 + 3 := by rw [a3.1, x2]
  have x4 : gX h4 = gX h0 + 4 := by rw [a4.1, x3]
  refine ⟨fz_trans (NA_z a1 hX (by decide)) (fz_trans (NA_z a2 (by omega) (by decide)) (fz_trans (NA_z a3 (by omega) (by decide)) (NA_z a4 (by omega) (by decide)))), ⟨⟨?_, ?_, ?_, ?_⟩, ⟨?_, ?_, ?_, ?_⟩, ⟨?_, ?_, ?_, ?_⟩, ?_, Or.inr hX⟩, fun y => ?_, x4⟩
  · rw [NA_R a4 (by omega) (by omega), NA_R a3 (by omega) (by omega), NA_R a2 (by omega) (by omega), a1.2.2.2.1, if_pos ⟨rfl, rfl⟩]
  · rw [NA_R a4 (by omega) (by omega), NA_R a3 (by omega) (by omega), a2.2.2.2.1, if_pos ⟨rfl, rfl⟩, x1]
  · rw [NA_R a4 (by omega) (by omega), a3.2.2.2.1, if_pos ⟨rfl, rfl⟩, x2]
  · rw [a4.2.2.2.1, if_pos ⟨rfl, rfl⟩, x3]
  · rw [NA_K a4 (by omega), NA_K a3 (by omega), NA_K a2 (by omega), a1.2.1, if_pos rfl]
  · rw [NA_K a4 (by omega), NA_K a3 (by omega), a2.2.1, if_pos (by omega)]
  · rw [NA_K a4 (by omega), a3.2.1, if_pos (by omega)]
  · rw [a4.2.1, if_pos (by omega)]
  · rw [NA_N a4 (by omega), NA_N a3 (by omega), NA_N a2 (by omega), a1.2.2.1, if_pos rfl]
  · rw [NA_N a4 (by omega), NA_N a3 (by omega), a2.2.2.1, if_pos (by omega)]
  · rw [NA_N a4 (by omega), a3.2.2.1, if_pos (by omega)]
  · exact fun _ => by rw [a4.2.2.1, if_pos (by omega)]
  · rw [NA_I a4 (by omega), NA_I a3 (by omega), NA_I a2 (by omega), NA_I a1 (by omega)]; exact e6
  · rw [NA_L a4 (by omega), NA_L a3 (by omega), NA_L a2 (by omega), a1.2.2.2.2.2, if_pos rfl]
/-- what a strip of so many rows may still have to make -/
def csC (r ρ : Nat) : Nat := if 25 ^ r ≤ ρ then 0 else 4
def csS (r ρ : Nat) : Nat := if 25 ^ r ≤ ρ then 0 else 6 * 25 ^ r + (13 * 25 ^ r / 16 + 1)
theorem p25 {r : Nat} (hr : r ≤ 3) : 25 ^ r ≤ 15625 := by
  match r, hr with
  | 0, _ => decide
  | 1, _ => decide
  | 2, _ => decide
  | 3, _ => decide
set_option maxHeartbeats 1000000 in
theorem t_St_makeRoom {f : Nat → Int32} {r n ρ a bc bs : Nat} {Q : Hp → Prop} (c0 : CN f r n h) (hX : 120 ≤ gX h) (rm : RM ρ a h) (hρ1 : ρ ≤ 15625) (hbc : csC r ρ ≤ bc) (hbs : csS r ρ ≤ bs) (hq0 : 25 ^ r ≤ ρ → Q h) (hq1 : ¬ 25 ^ r ≤ ρ → ∀ h', Fz [42] [] h h' → (∀ j, j ≠ 6 → gI h' 42 j = gI h 42 j) → RM (25 ^ r) (gX h) h' → (∀ y, gL h' (gX h) y = 0) → gX h' = gX h + 4 → Q h') : w_St_makeRoom bc bs 42 h Q := by
  have m := c0.1
  have hr1 := c0.2.1.2.2.2.1
  have hr := c0.2.1.2.2.2.2.1
  have e6 := rm.2.2.2.1
  have key : ∀ d i, i + d = r → 1 ≤ i → w_St_makeRoom_L5 Q 42 (d + 1) (nI (25 ^ i)) (nI i) bc bs h := by
    intro d
    induction d with
    | zero =>
      intro i hi _
      have : i = r := by omega
      subst this
      have pr := p25 hr
      have g6 : gI (sI h 42 6 (nI (25 ^ i))) 42 6 = nI (25 ^ i) := by rw [gI_sI, if_pos ⟨rfl, rfl⟩]
      have m2 : (2 : Int32) * nI (25 ^ i) = nI (2 * 25 ^ i) := pk_mul 2 _
      have m13 : (13 : Int32) * nI (25 ^ i) / 16 + 1 = nI (13 * 25 ^ i / 16 + 1) := by
        rw [show (13 : Int32) = nI 13 from rfl, pk_mul, show (16 : Int32) = nI 16 from rfl, pk_div (by omega) (by omega) (by omega), nI_1]
      unfold w_St_makeRoom_L5
      rw [X_r42_0 m, show gI h 21 1 = nI i from c0.2.1.2.1, e6, g6]
      refine ⟨X_k42 m, X_k21 m, fun _ => ⟨fun z => hq0 ((nI_leI (by omega) (by omega)).mp z), fun z => ?_⟩, fun z => absurd (Int32.le_refl _) z⟩
      have nle : ¬ 25 ^ i ≤ ρ := fun q => z ((nI_leI (by omega) (by omega)).mpr q)
      unfold csC at hbc
      unfold csS at hbs
      rw [if_neg nle] at hbc hbs
      rw [m2]
      refine ⟨by omega, bc - 1, bs - 2 * 25 ^ i, by omega, by rw [ix_nI (by omega)]; omega, nI_nlt (b := 0) (Nat.zero_le _) (by omega), by rw [ix_nI (by omega)]; omega, ?_⟩
      rintro _ _ rfl rfl
      rw [ix_nI (by omega)]
      have X0 : gX (sI h 42 6 (nI (25 ^ i))) = gX h := rfl
      have K0 : gK (sI h 42 6 (nI (25 ^ i))) 42 = 9 := X_k42 m
      have F0 : Fz [42] [] h (sI h 42 6 (nI (25 ^ i))) := fz_fx (fx_sI (as := [42]) (js := []) h _ (by simp)) (by simp) (by simp)
      have J0 : ∀ j, j ≠ 6 → gI (sI h 42 6 (nI (25 ^ i))) 42 j = gI h 42 j := fun j hj => by rw [gI_sI, if_neg (fun q => hj q.2)]
      generalize sI h 42 6 (nI (25 ^ i)) = h0 at g6 X0 K0 F0 J0 ⊢
      have a1 : NA 21 (2 * 25 ^ i) 7 h0 (sR (nw h0 21 (2 * 25 ^ i)) 42 7 (gX h0)) := NA_of
      have k1 : gK (nw h0 21 (2 * 25 ^ i)) 42 = 9 := by rw [gK_nw, if_neg (by omega)]; exact K0
      refine ⟨k1, by rw [gX_nw]; omega, by rw [gX_nw]; omega, ?_⟩
      generalize sR (nw h0 21 (2 * 25 ^ i)) 42 7 (gX h0) = h1 at a1 ⊢
      have g1 : gI h1 42 6 = nI (25 ^ i) := by rw [NA_I a1 (by omega)]; exact g6
      have K1 : gK h1 42 = 9 := by rw [NA_K a1 (by omega)]; exact K0
      have X1 : gX h1 = gX h + 1 := by rw [a1.1, X0]
      rw [g1, m2]
      refine ⟨bc - 2, bs - 4 * 25 ^ i, by omega, by rw [ix_nI (by omega)]; omega, nI_nlt (b := 0) (Nat.zero_le _) (by omega), by rw [ix_nI (by omega)]; omega, ?_⟩
      rintro _ _ rfl rfl
      rw [ix_nI (by omega)]
      have a2 : NA 20 (2 * 25 ^ i) 8 h1 (sR (nw h1 20 (2 * 25 ^ i)) 42 8 (gX h1)) := NA_of
      have k2 : gK (nw h1 20 (2 * 25 ^ i)) 42 = 9 := by rw [gK_nw, if_neg (by omega)]; exact K1
      refine ⟨k2, by rw [gX_nw]; omega, by rw [gX_nw]; omega, ?_⟩
      generalize sR (nw h1 20 (2 * 25 ^ i)) 42 8 (gX h1) = h2 at a2 ⊢
      have g2 : gI h2 42 6 = nI (25 ^ i) := by rw [NA_I a2 (by omega)]; exact g1
      have K2 : gK h2 42 = 9 := by rw [NA_K a2 (by omega)]; exact K1
      have X2 : gX h2 = gX h + 2 := by rw [a2.1, X1]
      rw [g2, m2]
      refine ⟨bc - 3, bs - 6 * 25 ^ i, by omega, by rw [ix_nI (by omega)]; omega, nI_nlt (b := 0) (Nat.zero_le _) (by omega), by rw [ix_nI (by omega)]; omega, ?_⟩
      rintro _ _ rfl rfl
      rw [ix_nI (by omega)]
      have a3 : NA 20 (2 * 25 ^ i) 9 h2 (sR (nw h2 20 (2 * 25 ^ i)) 42 9 (gX h2)) := NA_of
      have k3 : gK (nw h2 20 (2 * 25 ^ i)) 42 = 9 := by rw [gK_nw, if_neg (by omega)]; exact K2
      refine ⟨k3, by rw [gX_nw]; omega, by rw [gX_nw]; omega, ?_⟩
      generalize sR (nw h2 20 (2 * 25 ^ i)) 42 9 (gX h2) = h3 at a3 ⊢
      have g3 : gI h3 42 6 = nI (25 ^ i) := by rw [NA_I a3 (by omega)]; exact g2
      have K3 : gK h3 42 = 9 := by rw [NA_K a3 (by omega)]; exact K2
      have X3 : gX h3 = gX h + 3 := by rw [a3.1, X2]
      rw [g3, m13]
      refine ⟨bc - 4, bs - 6 * 25 ^ i - (13 * 25 ^ i / 16 + 1), by omega, by rw [ix_nI (by omega)]; omega, nI_nlt (b := 0) (Nat.zero_le _) (by omega), by rw [ix_nI (by omega)]; omega, ?_⟩
      rintro _ _ rfl rfl
      rw [ix_nI (by omega)]
      have a4 : NA 21 (13 * 25 ^ i / 16 + 1) 10 h3 (sR (nw h3 21 (13 * 25 ^ i / 16 + 1)) 42 10 (gX h3)) := NA_of
      have k4 : gK (nw h3 21 (13 * 25 ^ i / 16 + 1)) 42 = 9 := by rw [gK_nw, if_neg (by omega)]; exact K3
      refine ⟨k4, by rw [gX_nw]; omega, ?_⟩
      generalize sR (nw h3 21 (13 * 25 ^ i / 16 + 1)) 42 10 (gX h3) = h4 at a4 ⊢
      obtain ⟨z1, z2, z3, z4⟩ := NA4 (by omega) g6 a1 a2 a3 a4
      rw [X0] at z2 z3 z4
      refine hq1 nle h4 (fz_trans F0 (fz_mono z1 (by simp) (by simp))) (fun j hj => ?_) z2 z3 z4
      rw [fz_I z1 (by decide) (by simp)]
      exact J0 j hj
    | succ d ih =>
      intro i hi h1
      have pr := p25 (r := i) (by omega)
      unfold w_St_makeRoom_L5
      rw [X_r42_0 m, show gI h 21 1 = nI r from c0.2.1.2.1]
      refine ⟨X_k42 m, X_k21 m, fun z => absurd z (nI_ge (by omega) (by omega)), fun _ => ?_⟩
      rw [show (25 : Int32) = nI 25 from rfl, pk_mul, nI_1, ← Nat.pow_succ]
      exact ih (i + 1) (by omega) (by omega)
  unfold w_St_makeRoom
  exact ⟨r - 1 + 1, key (r - 1) 1 (by omega) (Nat.le_refl _)⟩
