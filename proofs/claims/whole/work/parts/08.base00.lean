theorem nle {a b : Nat} (h : Nat.ble a b = true) : a ≤ b := Nat.le_of_ble_eq_true h
theorem r_pick {X : Option (Nat × (Nat → Int32))} {y : MI} {d pc : Nat} {ls ls2 : List (Nat × AV)} {st : List AV} {h : Hp} {bc bs : Nat} {Q : Option AV → Hp → Prop} (ks : List Nat) (hp : ks.filterMap (fun i => ls[i]?) = ls2) (k : aW X y d pc ls2 st h bc bs Q) : aW X y d pc ls st h bc bs Q := by
  refine r_sub (fun q hq => ?_) k
  rw [← hp] at hq
  obtain ⟨i, -, hi⟩ := List.mem_filterMap.mp hq
  exact List.mem_of_getElem? hi
def b2i (b : Bool) : Int32 := if b then 1 else 0
def i2b (v : Int32) : Bool := if v = 0 then false else true
theorem b2i_B (b : Bool) : isB (b2i b) := by cases b <;> simp [b2i, isB]
theorem b2i_0 {b : Bool} : b2i b = 0 ↔ b = false := by cases b <;> simp [b2i]
theorem b2i_i {v : Int32} (h : isB v) : b2i (i2b v) = v := by rcases h with rfl | rfl <;> rfl
theorem refB_n {n : Nat} : refB n [] := fun _ h => absurd h List.not_mem_nil
theorem refB_i {n : Nat} {v : Int32} {st : List AV} (h : refB n st) : refB n (ai v :: st) := fun w hw a e => by
  rcases List.mem_cons.mp hw with rfl | hw
  · cases e
  · exact h w hw a e
theorem refB_l {n : Nat} {v : Int64} {st : List AV} (h : refB n st) : refB n (al v :: st) := fun w hw a e => by
  rcases List.mem_cons.mp hw with rfl | hw
  · cases e
  · exact h w hw a e
theorem refB_r {n b : Nat} {st : List AV} (hb : b < n) (h : refB n st) : refB n (ar b :: st) := fun w hw a e => by
  rcases List.mem_cons.mp hw with rfl | hw
  · cases e; exact hb
  · exact h w hw a e
theorem refL_n {n : Nat} : refL n [] := fun _ h => absurd h List.not_mem_nil
theorem refL_i {n i : Nat} {v : Int32} {st : List (Nat × AV)} (h : refL n st) : refL n ((i, ai v) :: st) := fun w hw a e => by
  rcases List.mem_cons.mp hw with rfl | hw
  · cases e
  · exact h w hw a e
theorem refL_l {n i : Nat} {v : Int64} {st : List (Nat × AV)} (h : refL n st) : refL n ((i, al v) :: st) := fun w hw a e => by
  rcases List.mem_cons.mp hw with rfl | hw
  · cases e
  · exact h w hw a e
theorem refL_r {n i b : Nat} {st : List (Nat × AV)} (hb : b < n) (h : refL n st) : refL n ((i, ar b) :: st) := fun w hw a e => by
  rcases List.mem_cons.mp hw with rfl | hw
  · cases e; exact hb
  · exact h w hw a e
theorem kl_0 : Int64.ofNat ((0 : Fin 2) : Nat) = 0 := by decide
theorem kl_1 : Int64.ofNat ((1 : Fin 2) : Nat) = 1 := by decide
theorem inT1 {w : Cond} (i : Nat) (h : tables_1_1[i]? = some w) (g : goodWord w = true) : w ∈ TB := List.mem_filter.mpr ⟨List.mem_append_right _ (show w ∈ tables_1 from List.mem_append_left _ (List.mem_of_getElem? h)), g⟩
theorem inT2 {w : Cond} (i : Nat) (h : tables_1_2[i]? = some w) (g : goodWord w = true) : w ∈ TB := List.mem_filter.mpr ⟨List.mem_append_right _ (show w ∈ tables_1 from List.mem_append_right _ (List.mem_append_left _ (List.mem_of_getElem? h))), g⟩
theorem inT3 {w : Cond} (i : Nat) (h : tables_1_3[i]? = some w) (g : goodWord w = true) : w ∈ TB := List.mem_filter.mpr ⟨List.mem_append_right _ (show w ∈ tables_1 from List.mem_append_right _ (List.mem_append_right _ (List.mem_append_left _ (List.mem_of_getElem? h)))), g⟩
theorem inT4 {w : Cond} (i : Nat) (h : tables_1_4[i]? = some w) (g : goodWord w = true) : w ∈ TB := List.mem_filter.mpr ⟨List.mem_append_right _ (show w ∈ tables_1 from List.mem_append_right _ (List.mem_append_right _ (List.mem_append_right _ (List.mem_append_left _ (List.mem_of_getElem? h))))), g⟩
theorem inT5 {w : Cond} (i : Nat) (h : tables_1_5[i]? = some w) (g : goodWord w = true) : w ∈ TB := List.mem_filter.mpr ⟨List.mem_append_right _ (show w ∈ tables_1 from List.mem_append_right _ (List.mem_append_right _ (List.mem_append_right _ (List.mem_append_right _ (List.mem_append_left _ (List.mem_of_getElem? h)))))), g⟩
theorem inT6 {w : Cond} (i : Nat) (h : tables_1_6[i]? = some w) (g : goodWord w = true) : w ∈ TB := List.mem_filter.mpr ⟨List.mem_append_right _ (show w ∈ tables_1 from List.mem_append_right _ (List.mem_append_right _ (List.mem_append_right _ (List.mem_append_right _ (List.mem_append_right _ (List.mem_append_left _ (List.mem_of_getElem? h))))))), g⟩
theorem inT7 {w : Cond} (i : Nat) (h : tables_1_7[i]? = some w) (g : goodWord w = true) : w ∈ TB := List.mem_filter.mpr ⟨List.mem_append_right _ (show w ∈ tables_1 from List.mem_append_right _ (List.mem_append_right _ (List.mem_append_right _ (List.mem_append_right _ (List.mem_append_right _ (List.mem_append_right _ (List.mem_append_left _ (List.mem_of_getElem? h)))))))), g⟩
theorem inT8 {w : Cond} (i : Nat) (h : tables_1_8[i]? = some w) (g : goodWord w = true) : w ∈ TB := List.mem_filter.mpr ⟨List.mem_append_right _ (show w ∈ tables_1 from List.mem_append_right _ (List.mem_append_right _ (List.mem_append_right _ (List.mem_append_right _ (List.mem_append_right _ (List.mem_append_right _ (List.mem_append_right _ (List.mem_append_left _ (List.mem_of_getElem? h))))))))), g⟩
theorem inT9 {w : Cond} (i : Nat) (h : tables_1_9[i]? = some w) (g : goodWord w = true) : w ∈ TB := List.mem_filter.mpr ⟨List.mem_append_right _ (show w ∈ tables_1 from List.mem_append_right _ (List.mem_append_right _ (List.mem_append_right _ (List.mem_append_right _ (List.mem_append_right _ (List.mem_append_right _ (List.mem_append_right _ (List.mem_append_right _ (List.mem_of_getElem? h))))))))), g⟩
theorem ac_I : Cond.arrayClass .int ∈ TB := inT1 56 (by decide +kernel) rfl
theorem ac_J : Cond.arrayClass .long ∈ TB := inT2 25 (by decide +kernel) rfl
theorem ac_Z : Cond.arrayClass .boolean ∈ TB := inT1 161 (by decide +kernel) rfl
theorem oi_1 : Cond.instanceMethod Lib.objectInit ∈ TB := inT1 28 (by decide +kernel) rfl
theorem oi_2 : Cond.code Lib.objectInit ⟨#[0xb1]⟩ 1 none ∈ TB := inT1 29 rfl rfl
theorem cp_1 : Cond.native arraycopyName ∈ TB := inT4 4 (by decide +kernel) rfl
theorem cp_2 : Cond.static arraycopyName ∈ TB := inT4 3 (by decide +kernel) rfl
theorem cp_3 : Cond.initialized "java/lang/System" ∈ TB := inT1 19 (by decide +kernel) rfl
theorem ty_0 : ∀ k, k < 7 → okTy (tyT 0 k) = true := by decide +kernel
theorem in_0 : Cond.instantiable RX0 7 ∈ TB := inT1 132 (by decide +kernel) rfl
theorem ini_0 : Cond.initialized RX0 ∈ TB := inT1 5 (by decide +kernel) rfl
theorem ty_1 : ∀ k, k < 4 → okTy (tyT 1 k) = true := by decide +kernel
theorem in_1 : Cond.instantiable RX1 4 ∈ TB := inT1 58 (by decide +kernel) rfl
theorem ini_1 : Cond.initialized RX1 ∈ TB := inT1 3 (by decide +kernel) rfl
theorem ty_2 : ∀ k, k < 13 → okTy (tyT 2 k) = true := by decide +kernel
theorem in_2 : Cond.instantiable RX2 13 ∈ TB := inT2 83 (by decide +kernel) rfl
theorem ini_2 : Cond.initialized RX2 ∈ TB := inT1 9 (by decide +kernel) rfl
theorem ty_3 : ∀ k, k < 12 → okTy (tyT 3 k) = true := by decide +kernel
theorem in_3 : Cond.instantiable RX3 12 ∈ TB := inT2 183 (by decide +kernel) rfl
theorem ini_3 : Cond.initialized RX3 ∈ TB := inT1 11 (by decide +kernel) rfl
theorem ty_4 : ∀ k, k < 13 → okTy (tyT 4 k) = true := by decide +kernel
theorem in_4 : Cond.instantiable RX4 13 ∈ TB := inT2 134 (by decide +kernel) rfl
theorem ini_4 : Cond.initialized RX4 ∈ TB := inT1 10 (by decide +kernel) rfl
theorem ty_5 : ∀ k, k < 10 → okTy (tyT 5 k) = true := by decide +kernel
theorem in_5 : Cond.instantiable RX5 10 ∈ TB := inT2 227 (by decide +kernel) rfl
theorem ini_5 : Cond.initialized RX5 ∈ TB := inT1 12 (by decide +kernel) rfl
theorem ty_6 : ∀ k, k < 15 → okTy (tyT 6 k) = true := by decide +kernel
theorem in_6 : Cond.instantiable RX6 15 ∈ TB := inT2 27 (by decide +kernel) rfl
theorem ini_6 : Cond.initialized RX6 ∈ TB := inT1 8 (by decide +kernel) rfl
theorem ty_7 : ∀ k, k < 10 → okTy (tyT 7 k) = true := by decide +kernel
theorem in_7 : Cond.instantiable RX7 10 ∈ TB := inT1 163 (by decide +kernel) rfl
theorem ini_7 : Cond.initialized RX7 ∈ TB := inT1 6 (by decide +kernel) rfl
theorem ty_8 : ∀ k, k < 8 → okTy (tyT 8 k) = true := by decide +kernel
theorem in_8 : Cond.instantiable RX8 8 ∈ TB := inT1 95 (by decide +kernel) rfl
theorem ini_8 : Cond.initialized RX8 ∈ TB := inT1 4 (by decide +kernel) rfl
theorem ty_9 : ∀ k, k < 17 → okTy (tyT 9 k) = true := by decide +kernel
theorem in_9 : Cond.instantiable RX9 17 ∈ TB := inT1 205 (by decide +kernel) rfl
theorem ini_9 : Cond.initialized RX9 ∈ TB := inT1 7 (by decide +kernel) rfl
theorem ty_10 : ∀ k, k < 5 → okTy (tyT 10 k) = true := by decide +kernel
theorem in_10 : Cond.instantiable RX10 5 ∈ TB := inT1 31 (by decide +kernel) rfl
theorem ini_10 : Cond.initialized RX10 ∈ TB := inT1 2 (by decide +kernel) rfl
theorem ty_11 : ∀ k, k < 15 → okTy (tyT 11 k) = true := by decide +kernel
theorem in_11 : Cond.instantiable RX11 15 ∈ TB := inT1 23 (by decide +kernel) rfl
theorem ini_11 : Cond.initialized RX11 ∈ TB := inT1 1 (by decide +kernel) rfl
theorem ty_12 : ∀ k, k < 79 → okTy (tyT 12 k) = true := by decide +kernel
theorem in_12 : Cond.instantiable RX12 79 ∈ TB := inT6 168 (by decide +kernel) rfl
theorem ini_12 : Cond.initialized RX12 ∈ TB := inT1 13 (by decide +kernel) rfl
theorem lf_X_10 : Cond.fieldLink "RowWalks" 10 (TX11 0).1 (TX11 0).2.1 (TX11 0).2.2.1 ∈ TB := inT3 27 (by decide +kernel) rfl
theorem lf_X_19 : Cond.fieldLink "RowWalks" 19 (TX11 1).1 (TX11 1).2.1 (TX11 1).2.2.1 ∈ TB := inT3 28 (by decide +kernel) rfl
theorem lf_X_23 : Cond.fieldLink "RowWalks" 23 (TX11 2).1 (TX11 2).2.1 (TX11 2).2.2.1 ∈ TB := inT3 29 (by decide +kernel) rfl
theorem lf_X_31 : Cond.fieldLink "RowWalks" 31 (TX11 3).1 (TX11 3).2.1 (TX11 3).2.2.1 ∈ TB := inT3 30 (by decide +kernel) rfl
theorem lf_X_35 : Cond.fieldLink "RowWalks" 35 (TX11 4).1 (TX11 4).2.1 (TX11 4).2.2.1 ∈ TB := inT3 31 (by decide +kernel) rfl
theorem lf_X_39 : Cond.fieldLink "RowWalks" 39 (TX11 5).1 (TX11 5).2.1 (TX11 5).2.2.1 ∈ TB := inT3 32 (by decide +kernel) rfl
theorem lf_X_46 : Cond.fieldLink "RowWalks" 46 (TX11 6).1 (TX11 6).2.1 (TX11 6).2.2.1 ∈ TB := inT3 33 (by decide +kernel) rfl
theorem lf_X_53 : Cond.fieldLink "RowWalks" 53 (TX11 7).1 (TX11 7).2.1 (TX11 7).2.2.1 ∈ TB := inT3 34 (by decide +kernel) rfl
theorem lf_X_62 : Cond.fieldLink "RowWalks" 62 (TX11 8).1 (TX11 8).2.1 (TX11 8).2.2.1 ∈ TB := inT3 35 (by decide +kernel) rfl
theorem lf_X_71 : Cond.fieldLink "RowWalks" 71 (TX11 9).1 (TX11 9).2.1 (TX11 9).2.2.1 ∈ TB := inT3 36 (by decide +kernel) rfl
theorem lf_X_78 : Cond.fieldLink "RowWalks" 78 (TX11 10).1 (TX11 10).2.1 (TX11 10).2.2.1 ∈ TB := inT3 37 (by decide +kernel) rfl
theorem lf_X_85 : Cond.fieldLink "RowWalks" 85 (TX11 11).1 (TX11 11).2.1 (TX11 11).2.2.1 ∈ TB := inT3 38 (by decide +kernel) rfl
theorem lf_X_92 : Cond.fieldLink "RowWalks" 92 (TX11 12).1 (TX11 12).2.1 (TX11 12).2.2.1 ∈ TB := inT3 39 (by decide +kernel) rfl
theorem lf_X_99 : Cond.fieldLink "RowWalks" 99 (TX11 13).1 (TX11 13).2.1 (TX11 13).2.2.1 ∈ TB := inT3 40 (by decide +kernel) rfl
theorem lf_X_103 : Cond.fieldLink "RowWalks" 103 (TX11 14).1 (TX11 14).2.1 (TX11 14).2.2.1 ∈ TB := inT3 41 (by decide +kernel) rfl
theorem lf_X_107 : Cond.fieldLink "RowWalks" 107 (TX10 1).1 (TX10 1).2.1 (TX10 1).2.2.1 ∈ TB := inT1 37 (by decide +kernel) rfl
theorem lf_X_119 : Cond.fieldLink "RowWalks" 119 (TX8 1).1 (TX8 1).2.1 (TX8 1).2.2.1 ∈ TB := inT1 104 (by decide +kernel) rfl
theorem lf_X_129 : Cond.fieldLink "RowWalks" 129 (TX1 2).1 (TX1 2).2.1 (TX1 2).2.2.1 ∈ TB := inT1 74 (by decide +kernel) rfl
theorem lf_X_132 : Cond.fieldLink "RowWalks" 132 (TX8 6).1 (TX8 6).2.1 (TX8 6).2.2.1 ∈ TB := inT1 110 (by decide +kernel) rfl
theorem lf_X_135 : Cond.fieldLink "RowWalks" 135 (TX8 7).1 (TX8 7).2.1 (TX8 7).2.2.1 ∈ TB := inT1 112 (by decide +kernel) rfl
theorem lf_X_210 : Cond.fieldLink "RowWalks" 210 (TX4 8).1 (TX4 8).2.1 (TX4 8).2.2.1 ∈ TB := inT2 148 (by decide +kernel) rfl
theorem lf_X_213 : Cond.fieldLink "RowWalks" 213 (TX4 9).1 (TX4 9).2.1 (TX4 9).2.2.1 ∈ TB := inT2 150 (by decide +kernel) rfl
theorem lf_X_216 : Cond.fieldLink "RowWalks" 216 (TX4 10).1 (TX4 10).2.1 (TX4 10).2.2.1 ∈ TB := inT2 152 (by decide +kernel) rfl
theorem lf_X_232 : Cond.fieldLink "RowWalks" 232 (TX9 14).1 (TX9 14).2.1 (TX9 14).2.2.1 ∈ TB := inT1 225 (by decide +kernel) rfl
theorem lf_X_235 : Cond.fieldLink "RowWalks" 235 (TX9 15).1 (TX9 15).2.1 (TX9 15).2.2.1 ∈ TB := inT1 227 (by decide +kernel) rfl
theorem lf_X_241 : Cond.fieldLink "RowWalks" 241 (TX9 16).1 (TX9 16).2.1 (TX9 16).2.2.1 ∈ TB := inT1 229 (by decide +kernel) rfl
theorem lf_X_254 : Cond.fieldLink "RowWalks" 254 (TX7 8).1 (TX7 8).2.1 (TX7 8).2.2.1 ∈ TB := inT1 180 (by decide +kernel) rfl
theorem lf_X_259 : Cond.fieldLink "RowWalks" 259 (TX6 11).1 (TX6 11).2.1 (TX6 11).2.2.1 ∈ TB := inT2 44 (by decide +kernel) rfl
theorem lf_X_260 : Cond.fieldLink "RowWalks" 260 (TX6 12).1 (TX6 12).2.1 (TX6 12).2.2.1 ∈ TB := inT2 46 (by decide +kernel) rfl
theorem lf_X_266 : Cond.fieldLink "RowWalks" 266 (TX6 13).1 (TX6 13).2.1 (TX6 13).2.2.1 ∈ TB := inT2 48 (by decide +kernel) rfl
theorem lf_X_269 : Cond.fieldLink "RowWalks" 269 (TX6 14).1 (TX6 14).2.1 (TX6 14).2.2.1 ∈ TB := inT2 50 (by decide +kernel) rfl
theorem lf_X_275 : Cond.fieldLink "RowWalks" 275 (TX3 11).1 (TX3 11).2.1 (TX3 11).2.2.1 ∈ TB := inT2 200 (by decide +kernel) rfl
theorem lf_X_284 : Cond.fieldLink "RowWalks" 284 (TX2 8).1 (TX2 8).2.1 (TX2 8).2.2.1 ∈ TB := inT2 97 (by decide +kernel) rfl
theorem lf_X_287 : Cond.fieldLink "RowWalks" 287 (TX2 9).1 (TX2 9).2.1 (TX2 9).2.2.1 ∈ TB := inT2 99 (by decide +kernel) rfl
theorem lf_X_290 : Cond.fieldLink "RowWalks" 290 (TX2 10).1 (TX2 10).2.1 (TX2 10).2.2.1 ∈ TB := inT2 101 (by decide +kernel) rfl
theorem lf_X_293 : Cond.fieldLink "RowWalks" 293 (TX2 11).1 (TX2 11).2.1 (TX2 11).2.2.1 ∈ TB := inT2 103 (by decide +kernel) rfl
theorem lf_X_296 : Cond.fieldLink "RowWalks" 296 (TX2 12).1 (TX2 12).2.1 (TX2 12).2.2.1 ∈ TB := inT2 105 (by decide +kernel) rfl
theorem lf_X_352 : Cond.fieldLink "RowWalks" 352 (TX1 1).1 (TX1 1).2.1 (TX1 1).2.2.1 ∈ TB := inT1 67 (by decide +kernel) rfl
theorem lf_X_362 : Cond.fieldLink "RowWalks" 362 (TX5 7).1 (TX5 7).2.1 (TX5 7).2.2.1 ∈ TB := inT3 1 (by decide +kernel) rfl
theorem lf_X_377 : Cond.fieldLink "RowWalks" 377 (TX5 8).1 (TX5 8).2.1 (TX5 8).2.2.1 ∈ TB := inT3 3 (by decide +kernel) rfl
theorem lf_X_380 : Cond.fieldLink "RowWalks" 380 (TX5 9).1 (TX5 9).2.1 (TX5 9).2.2.1 ∈ TB := inT3 5 (by decide +kernel) rfl
theorem lf_X_389 : Cond.fieldLink "RowWalks" 389 (TX0 5).1 (TX0 5).2.1 (TX0 5).2.2.1 ∈ TB := inT1 143 (by decide +kernel) rfl
theorem lf_X_392 : Cond.fieldLink "RowWalks" 392 (TX0 6).1 (TX0 6).2.1 (TX0 6).2.2.1 ∈ TB := inT1 145 (by decide +kernel) rfl
theorem lf_X_395 : Cond.fieldLink "RowWalks" 395 (TX5 6).1 (TX5 6).2.1 (TX5 6).2.2.1 ∈ TB := inT2 239 (by decide +kernel) rfl
theorem lf_Ac_11 : Cond.fieldLink "RowWalks$Acts" 11 (TX0 0).1 (TX0 0).2.1 (TX0 0).2.2.1 ∈ TB := inT1 137 (by decide +kernel) rfl
theorem lf_Ac_15 : Cond.fieldLink "RowWalks$Acts" 15 (TX0 1).1 (TX0 1).2.1 (TX0 1).2.2.1 ∈ TB := inT1 138 (by decide +kernel) rfl
theorem lf_Ac_18 : Cond.fieldLink "RowWalks$Acts" 18 (TX0 2).1 (TX0 2).2.1 (TX0 2).2.2.1 ∈ TB := inT1 139 (by decide +kernel) rfl
theorem lf_Ac_21 : Cond.fieldLink "RowWalks$Acts" 21 (TX0 3).1 (TX0 3).2.1 (TX0 3).2.2.1 ∈ TB := inT1 140 (by decide +kernel) rfl
theorem lf_Ac_24 : Cond.fieldLink "RowWalks$Acts" 24 (TX0 4).1 (TX0 4).2.1 (TX0 4).2.2.1 ∈ TB := inT1 141 (by decide +kernel) rfl
theorem lf_Ac_28 : Cond.fieldLink "RowWalks$Acts" 28 (TX0 5).1 (TX0 5).2.1 (TX0 5).2.2.1 ∈ TB := inT1 142 (by decide +kernel) rfl
theorem lf_Ac_31 : Cond.fieldLink "RowWalks$Acts" 31 (TX0 6).1 (TX0 6).2.1 (TX0 6).2.2.1 ∈ TB := inT1 144 (by decide +kernel) rfl
theorem lf_Ac_54 : Cond.fieldLink "RowWalks$Acts" 54 (TX1 2).1 (TX1 2).2.1 (TX1 2).2.2.1 ∈ TB := inT1 77 (by decide +kernel) rfl
theorem lf_Co_11 : Cond.fieldLink "RowWalks$Columns" 11 (TX1 0).1 (TX1 0).2.1 (TX1 0).2.2.1 ∈ TB := inT1 63 (by decide +kernel) rfl
theorem lf_Co_15 : Cond.fieldLink "RowWalks$Columns" 15 (TX1 1).1 (TX1 1).2.1 (TX1 1).2.2.1 ∈ TB := inT1 64 (by decide +kernel) rfl
theorem lf_Co_25 : Cond.fieldLink "RowWalks$Columns" 25 (TX1 2).1 (TX1 2).2.1 (TX1 2).2.2.1 ∈ TB := inT1 68 (by decide +kernel) rfl
theorem lf_Co_28 : Cond.fieldLink "RowWalks$Columns" 28 (TX1 3).1 (TX1 3).2.1 (TX1 3).2.2.1 ∈ TB := inT1 82 (by decide +kernel) rfl
theorem lf_Cr_11 : Cond.fieldLink "RowWalks$Corners" 11 (TX2 1).1 (TX2 1).2.1 (TX2 1).2.2.1 ∈ TB := inT2 89 (by decide +kernel) rfl
theorem lf_Cr_15 : Cond.fieldLink "RowWalks$Corners" 15 (TX2 2).1 (TX2 2).2.1 (TX2 2).2.2.1 ∈ TB := inT2 90 (by decide +kernel) rfl
theorem lf_Cr_19 : Cond.fieldLink "RowWalks$Corners" 19 (TX2 3).1 (TX2 3).2.1 (TX2 3).2.2.1 ∈ TB := inT2 91 (by decide +kernel) rfl
theorem lf_Cr_22 : Cond.fieldLink "RowWalks$Corners" 22 (TX2 12).1 (TX2 12).2.1 (TX2 12).2.2.1 ∈ TB := inT2 104 (by decide +kernel) rfl
theorem lf_Cr_26 : Cond.fieldLink "RowWalks$Corners" 26 (TX2 0).1 (TX2 0).2.1 (TX2 0).2.2.1 ∈ TB := inT2 88 (by decide +kernel) rfl
theorem lf_Cr_30 : Cond.fieldLink "RowWalks$Corners" 30 (TX2 8).1 (TX2 8).2.1 (TX2 8).2.2.1 ∈ TB := inT2 96 (by decide +kernel) rfl
theorem lf_Cr_34 : Cond.fieldLink "RowWalks$Corners" 34 (TX2 9).1 (TX2 9).2.1 (TX2 9).2.2.1 ∈ TB := inT2 98 (by decide +kernel) rfl
theorem lf_Cr_38 : Cond.fieldLink "RowWalks$Corners" 38 (TX2 6).1 (TX2 6).2.1 (TX2 6).2.2.1 ∈ TB := inT2 94 (by decide +kernel) rfl
theorem lf_Cr_41 : Cond.fieldLink "RowWalks$Corners" 41 (TX2 7).1 (TX2 7).2.1 (TX2 7).2.2.1 ∈ TB := inT2 95 (by decide +kernel) rfl
theorem lf_Cr_44 : Cond.fieldLink "RowWalks$Corners" 44 (TX1 3).1 (TX1 3).2.1 (TX1 3).2.2.1 ∈ TB := inT1 84 (by decide +kernel) rfl
theorem lf_Cr_49 : Cond.fieldLink "RowWalks$Corners" 49 (TX1 2).1 (TX1 2).2.1 (TX1 2).2.2.1 ∈ TB := inT1 73 (by decide +kernel) rfl
theorem lf_Cr_64 : Cond.fieldLink "RowWalks$Corners" 64 (TX2 11).1 (TX2 11).2.1 (TX2 11).2.2.1 ∈ TB := inT2 102 (by decide +kernel) rfl
theorem lf_Cr_67 : Cond.fieldLink "RowWalks$Corners" 67 (TX2 5).1 (TX2 5).2.1 (TX2 5).2.2.1 ∈ TB := inT2 93 (by decide +kernel) rfl
theorem lf_Cr_70 : Cond.fieldLink "RowWalks$Corners" 70 (TX2 10).1 (TX2 10).2.1 (TX2 10).2.2.1 ∈ TB := inT2 100 (by decide +kernel) rfl
theorem lf_Cr_79 : Cond.fieldLink "RowWalks$Corners" 79 (TX2 4).1 (TX2 4).2.1 (TX2 4).2.2.1 ∈ TB := inT2 92 (by decide +kernel) rfl
theorem lf_Db_11 : Cond.fieldLink "RowWalks$Doubling" 11 (TX3 1).1 (TX3 1).2.1 (TX3 1).2.2.1 ∈ TB := inT2 189 (by decide +kernel) rfl
theorem lf_Db_15 : Cond.fieldLink "RowWalks$Doubling" 15 (TX3 2).1 (TX3 2).2.1 (TX3 2).2.2.1 ∈ TB := inT2 190 (by decide +kernel) rfl
theorem lf_Db_18 : Cond.fieldLink "RowWalks$Doubling" 18 (TX3 3).1 (TX3 3).2.1 (TX3 3).2.2.1 ∈ TB := inT2 191 (by decide +kernel) rfl
theorem lf_Db_21 : Cond.fieldLink "RowWalks$Doubling" 21 (TX3 4).1 (TX3 4).2.1 (TX3 4).2.2.1 ∈ TB := inT2 192 (by decide +kernel) rfl
theorem lf_Db_24 : Cond.fieldLink "RowWalks$Doubling" 24 (TX3 5).1 (TX3 5).2.1 (TX3 5).2.2.1 ∈ TB := inT2 193 (by decide +kernel) rfl
theorem lf_Db_27 : Cond.fieldLink "RowWalks$Doubling" 27 (TX3 0).1 (TX3 0).2.1 (TX3 0).2.2.1 ∈ TB := inT2 188 (by decide +kernel) rfl
theorem lf_Db_31 : Cond.fieldLink "RowWalks$Doubling" 31 (TX3 7).1 (TX3 7).2.1 (TX3 7).2.2.1 ∈ TB := inT2 195 (by decide +kernel) rfl
theorem lf_Db_35 : Cond.fieldLink "RowWalks$Doubling" 35 (TX3 8).1 (TX3 8).2.1 (TX3 8).2.2.1 ∈ TB := inT2 196 (by decide +kernel) rfl
theorem lf_Db_39 : Cond.fieldLink "RowWalks$Doubling" 39 (TX1 3).1 (TX1 3).2.1 (TX1 3).2.2.1 ∈ TB := inT1 83 (by decide +kernel) rfl
theorem lf_Db_44 : Cond.fieldLink "RowWalks$Doubling" 44 (TX3 9).1 (TX3 9).2.1 (TX3 9).2.2.1 ∈ TB := inT2 197 (by decide +kernel) rfl
theorem lf_Db_47 : Cond.fieldLink "RowWalks$Doubling" 47 (TX3 10).1 (TX3 10).2.1 (TX3 10).2.2.1 ∈ TB := inT2 198 (by decide +kernel) rfl
theorem lf_Db_58 : Cond.fieldLink "RowWalks$Doubling" 58 (TX1 2).1 (TX1 2).2.1 (TX1 2).2.2.1 ∈ TB := inT1 71 (by decide +kernel) rfl
theorem lf_Db_65 : Cond.fieldLink "RowWalks$Doubling" 65 (TX3 6).1 (TX3 6).2.1 (TX3 6).2.2.1 ∈ TB := inT2 194 (by decide +kernel) rfl
theorem lf_Db_79 : Cond.fieldLink "RowWalks$Doubling" 79 (TX3 11).1 (TX3 11).2.1 (TX3 11).2.2.1 ∈ TB := inT2 199 (by decide +kernel) rfl
theorem lf_Ex_11 : Cond.fieldLink "RowWalks$Exchange" 11 (TX4 1).1 (TX4 1).2.1 (TX4 1).2.2.1 ∈ TB := inT2 140 (by decide +kernel) rfl
theorem lf_Ex_15 : Cond.fieldLink "RowWalks$Exchange" 15 (TX4 2).1 (TX4 2).2.1 (TX4 2).2.2.1 ∈ TB := inT2 141 (by decide +kernel) rfl
theorem lf_Ex_18 : Cond.fieldLink "RowWalks$Exchange" 18 (TX4 3).1 (TX4 3).2.1 (TX4 3).2.2.1 ∈ TB := inT2 142 (by decide +kernel) rfl
theorem lf_Ex_21 : Cond.fieldLink "RowWalks$Exchange" 21 (TX4 4).1 (TX4 4).2.1 (TX4 4).2.2.1 ∈ TB := inT2 143 (by decide +kernel) rfl
theorem lf_Ex_24 : Cond.fieldLink "RowWalks$Exchange" 24 (TX4 0).1 (TX4 0).2.1 (TX4 0).2.2.1 ∈ TB := inT2 139 (by decide +kernel) rfl
theorem lf_Ex_28 : Cond.fieldLink "RowWalks$Exchange" 28 (TX4 5).1 (TX4 5).2.1 (TX4 5).2.2.1 ∈ TB := inT2 144 (by decide +kernel) rfl
theorem lf_Ex_32 : Cond.fieldLink "RowWalks$Exchange" 32 (TX4 6).1 (TX4 6).2.1 (TX4 6).2.2.1 ∈ TB := inT2 145 (by decide +kernel) rfl
theorem lf_Ex_36 : Cond.fieldLink "RowWalks$Exchange" 36 (TX1 3).1 (TX1 3).2.1 (TX1 3).2.2.1 ∈ TB := inT1 81 (by decide +kernel) rfl
theorem lf_Ex_41 : Cond.fieldLink "RowWalks$Exchange" 41 (TX4 7).1 (TX4 7).2.1 (TX4 7).2.2.1 ∈ TB := inT2 146 (by decide +kernel) rfl
theorem lf_Ex_51 : Cond.fieldLink "RowWalks$Exchange" 51 (TX4 8).1 (TX4 8).2.1 (TX4 8).2.2.1 ∈ TB := inT2 147 (by decide +kernel) rfl
theorem lf_Ex_54 : Cond.fieldLink "RowWalks$Exchange" 54 (TX4 12).1 (TX4 12).2.1 (TX4 12).2.2.1 ∈ TB := inT2 154 (by decide +kernel) rfl
theorem lf_Ex_61 : Cond.fieldLink "RowWalks$Exchange" 61 (TX4 11).1 (TX4 11).2.1 (TX4 11).2.2.1 ∈ TB := inT2 153 (by decide +kernel) rfl
theorem lf_Ex_72 : Cond.fieldLink "RowWalks$Exchange" 72 (TX1 2).1 (TX1 2).2.1 (TX1 2).2.2.1 ∈ TB := inT1 75 (by decide +kernel) rfl
theorem lf_Ex_97 : Cond.fieldLink "RowWalks$Exchange" 97 (TX4 9).1 (TX4 9).2.1 (TX4 9).2.2.1 ∈ TB := inT2 149 (by decide +kernel) rfl
theorem lf_Ex_100 : Cond.fieldLink "RowWalks$Exchange" 100 (TX4 10).1 (TX4 10).2.1 (TX4 10).2.2.1 ∈ TB := inT2 151 (by decide +kernel) rfl
theorem lf_Kn_11 : Cond.fieldLink "RowWalks$Knowledge" 11 (TX5 2).1 (TX5 2).2.1 (TX5 2).2.2.1 ∈ TB := inT2 234 (by decide +kernel) rfl
theorem lf_Kn_15 : Cond.fieldLink "RowWalks$Knowledge" 15 (TX5 3).1 (TX5 3).2.1 (TX5 3).2.2.1 ∈ TB := inT2 235 (by decide +kernel) rfl
theorem lf_Kn_18 : Cond.fieldLink "RowWalks$Knowledge" 18 (TX5 4).1 (TX5 4).2.1 (TX5 4).2.2.1 ∈ TB := inT2 236 (by decide +kernel) rfl
theorem lf_Kn_21 : Cond.fieldLink "RowWalks$Knowledge" 21 (TX5 5).1 (TX5 5).2.1 (TX5 5).2.2.1 ∈ TB := inT2 237 (by decide +kernel) rfl
theorem lf_Kn_24 : Cond.fieldLink "RowWalks$Knowledge" 24 (TX5 0).1 (TX5 0).2.1 (TX5 0).2.2.1 ∈ TB := inT2 232 (by decide +kernel) rfl
theorem lf_Kn_28 : Cond.fieldLink "RowWalks$Knowledge" 28 (TX5 1).1 (TX5 1).2.1 (TX5 1).2.2.1 ∈ TB := inT2 233 (by decide +kernel) rfl
theorem lf_Kn_32 : Cond.fieldLink "RowWalks$Knowledge" 32 (TX5 6).1 (TX5 6).2.1 (TX5 6).2.2.1 ∈ TB := inT2 238 (by decide +kernel) rfl
theorem lf_Kn_36 : Cond.fieldLink "RowWalks$Knowledge" 36 (TX1 2).1 (TX1 2).2.1 (TX1 2).2.2.1 ∈ TB := inT1 70 (by decide +kernel) rfl
theorem lf_Kn_45 : Cond.fieldLink "RowWalks$Knowledge" 45 (TX7 8).1 (TX7 8).2.1 (TX7 8).2.2.1 ∈ TB := inT1 178 (by decide +kernel) rfl
theorem lf_Kn_48 : Cond.fieldLink "RowWalks$Knowledge" 48 (TX5 7).1 (TX5 7).2.1 (TX5 7).2.2.1 ∈ TB := inT3 0 (by decide +kernel) rfl
theorem lf_Kn_64 : Cond.fieldLink "RowWalks$Knowledge" 64 (TX5 9).1 (TX5 9).2.1 (TX5 9).2.2.1 ∈ TB := inT3 4 (by decide +kernel) rfl
theorem lf_Kn_73 : Cond.fieldLink "RowWalks$Knowledge" 73 (TX5 8).1 (TX5 8).2.1 (TX5 8).2.2.1 ∈ TB := inT3 2 (by decide +kernel) rfl
theorem lf_Op_9 : Cond.fieldLink "RowWalks$Optimum" 9 (TX6 2).1 (TX6 2).2.1 (TX6 2).2.2.1 ∈ TB := inT2 34 (by decide +kernel) rfl
theorem lf_Op_15 : Cond.fieldLink "RowWalks$Optimum" 15 (TX6 3).1 (TX6 3).2.1 (TX6 3).2.2.1 ∈ TB := inT2 35 (by decide +kernel) rfl
theorem lf_Op_18 : Cond.fieldLink "RowWalks$Optimum" 18 (TX6 4).1 (TX6 4).2.1 (TX6 4).2.2.1 ∈ TB := inT2 36 (by decide +kernel) rfl
theorem lf_Op_21 : Cond.fieldLink "RowWalks$Optimum" 21 (TX6 5).1 (TX6 5).2.1 (TX6 5).2.2.1 ∈ TB := inT2 37 (by decide +kernel) rfl
theorem lf_Op_24 : Cond.fieldLink "RowWalks$Optimum" 24 (TX6 6).1 (TX6 6).2.1 (TX6 6).2.2.1 ∈ TB := inT2 38 (by decide +kernel) rfl
theorem lf_Op_27 : Cond.fieldLink "RowWalks$Optimum" 27 (TX6 0).1 (TX6 0).2.1 (TX6 0).2.2.1 ∈ TB := inT2 32 (by decide +kernel) rfl
theorem lf_Op_31 : Cond.fieldLink "RowWalks$Optimum" 31 (TX6 1).1 (TX6 1).2.1 (TX6 1).2.2.1 ∈ TB := inT2 33 (by decide +kernel) rfl
theorem lf_Op_35 : Cond.fieldLink "RowWalks$Optimum" 35 (TX6 8).1 (TX6 8).2.1 (TX6 8).2.2.1 ∈ TB := inT2 40 (by decide +kernel) rfl
theorem lf_Op_39 : Cond.fieldLink "RowWalks$Optimum" 39 (TX6 9).1 (TX6 9).2.1 (TX6 9).2.2.1 ∈ TB := inT2 41 (by decide +kernel) rfl
theorem lf_Op_43 : Cond.fieldLink "RowWalks$Optimum" 43 (TX1 3).1 (TX1 3).2.1 (TX1 3).2.2.1 ∈ TB := inT1 79 (by decide +kernel) rfl
theorem lf_Op_51 : Cond.fieldLink "RowWalks$Optimum" 51 (TX6 10).1 (TX6 10).2.1 (TX6 10).2.2.1 ∈ TB := inT2 42 (by decide +kernel) rfl
theorem lf_Op_61 : Cond.fieldLink "RowWalks$Optimum" 61 (TX6 14).1 (TX6 14).2.1 (TX6 14).2.2.1 ∈ TB := inT2 49 (by decide +kernel) rfl
theorem lf_Op_78 : Cond.fieldLink "RowWalks$Optimum" 78 (TX7 8).1 (TX7 8).2.1 (TX7 8).2.2.1 ∈ TB := inT1 179 (by decide +kernel) rfl
theorem lf_Op_81 : Cond.fieldLink "RowWalks$Optimum" 81 (TX7 9).1 (TX7 9).2.1 (TX7 9).2.2.1 ∈ TB := inT1 182 (by decide +kernel) rfl
theorem lf_Op_84 : Cond.fieldLink "RowWalks$Optimum" 84 (TX6 11).1 (TX6 11).2.1 (TX6 11).2.2.1 ∈ TB := inT2 43 (by decide +kernel) rfl
theorem lf_Op_85 : Cond.fieldLink "RowWalks$Optimum" 85 (TX6 12).1 (TX6 12).2.1 (TX6 12).2.2.1 ∈ TB := inT2 45 (by decide +kernel) rfl
theorem lf_Op_88 : Cond.fieldLink "RowWalks$Optimum" 88 (TX7 2).1 (TX7 2).2.1 (TX7 2).2.2.1 ∈ TB := inT1 171 (by decide +kernel) rfl
theorem lf_Op_97 : Cond.fieldLink "RowWalks$Optimum" 97 (TX6 7).1 (TX6 7).2.1 (TX6 7).2.2.1 ∈ TB := inT2 39 (by decide +kernel) rfl
theorem lf_Op_100 : Cond.fieldLink "RowWalks$Optimum" 100 (TX1 2).1 (TX1 2).2.1 (TX1 2).2.2.1 ∈ TB := inT1 76 (by decide +kernel) rfl
theorem lf_Op_115 : Cond.fieldLink "RowWalks$Optimum" 115 (TX6 13).1 (TX6 13).2.1 (TX6 13).2.2.1 ∈ TB := inT2 47 (by decide +kernel) rfl
theorem lf_Ps_9 : Cond.fieldLink "RowWalks$PlanSearch" 9 (TX7 0).1 (TX7 0).2.1 (TX7 0).2.2.1 ∈ TB := inT1 168 (by decide +kernel) rfl
theorem lf_Ps_15 : Cond.fieldLink "RowWalks$PlanSearch" 15 (TX7 1).1 (TX7 1).2.1 (TX7 1).2.2.1 ∈ TB := inT1 169 (by decide +kernel) rfl
theorem lf_Ps_18 : Cond.fieldLink "RowWalks$PlanSearch" 18 (TX7 2).1 (TX7 2).2.1 (TX7 2).2.2.1 ∈ TB := inT1 170 (by decide +kernel) rfl
theorem lf_Ps_21 : Cond.fieldLink "RowWalks$PlanSearch" 21 (TX7 3).1 (TX7 3).2.1 (TX7 3).2.2.1 ∈ TB := inT1 172 (by decide +kernel) rfl
theorem lf_Ps_24 : Cond.fieldLink "RowWalks$PlanSearch" 24 (TX7 4).1 (TX7 4).2.1 (TX7 4).2.2.1 ∈ TB := inT1 173 (by decide +kernel) rfl
theorem lf_Ps_27 : Cond.fieldLink "RowWalks$PlanSearch" 27 (TX7 5).1 (TX7 5).2.1 (TX7 5).2.2.1 ∈ TB := inT1 174 (by decide +kernel) rfl
theorem lf_Ps_30 : Cond.fieldLink "RowWalks$PlanSearch" 30 (TX7 6).1 (TX7 6).2.1 (TX7 6).2.2.1 ∈ TB := inT1 175 (by decide +kernel) rfl
theorem lf_Ps_34 : Cond.fieldLink "RowWalks$PlanSearch" 34 (TX7 7).1 (TX7 7).2.1 (TX7 7).2.2.1 ∈ TB := inT1 176 (by decide +kernel) rfl
theorem lf_Ps_38 : Cond.fieldLink "RowWalks$PlanSearch" 38 (TX7 8).1 (TX7 8).2.1 (TX7 8).2.2.1 ∈ TB := inT1 177 (by decide +kernel) rfl
theorem lf_Ps_41 : Cond.fieldLink "RowWalks$PlanSearch" 41 (TX7 9).1 (TX7 9).2.1 (TX7 9).2.2.1 ∈ TB := inT1 181 (by decide +kernel) rfl
theorem lf_Ps_50 : Cond.fieldLink "RowWalks$PlanSearch" 50 (TX1 2).1 (TX1 2).2.1 (TX1 2).2.2.1 ∈ TB := inT1 69 (by decide +kernel) rfl
theorem lf_Rd_12 : Cond.fieldLink "RowWalks$Reader" 12 (TX8 1).1 (TX8 1).2.1 (TX8 1).2.2.1 ∈ TB := inT1 103 (by decide +kernel) rfl
theorem lf_Rd_18 : Cond.fieldLink "RowWalks$Reader" 18 (TX8 2).1 (TX8 2).2.1 (TX8 2).2.2.1 ∈ TB := inT1 105 (by decide +kernel) rfl
theorem lf_Rd_22 : Cond.fieldLink "RowWalks$Reader" 22 (TX8 3).1 (TX8 3).2.1 (TX8 3).2.2.1 ∈ TB := inT1 106 (by decide +kernel) rfl
theorem lf_Rd_25 : Cond.fieldLink "RowWalks$Reader" 25 (TX8 7).1 (TX8 7).2.1 (TX8 7).2.2.1 ∈ TB := inT1 111 (by decide +kernel) rfl
theorem lf_Rd_29 : Cond.fieldLink "RowWalks$Reader" 29 (TX8 0).1 (TX8 0).2.1 (TX8 0).2.2.1 ∈ TB := inT1 102 (by decide +kernel) rfl
theorem lf_Rd_36 : Cond.fieldLink "RowWalks$Reader" 36 (TX8 4).1 (TX8 4).2.1 (TX8 4).2.2.1 ∈ TB := inT1 107 (by decide +kernel) rfl
theorem lf_Rd_40 : Cond.fieldLink "RowWalks$Reader" 40 (TX8 5).1 (TX8 5).2.1 (TX8 5).2.2.1 ∈ TB := inT1 108 (by decide +kernel) rfl
theorem lf_Rd_43 : Cond.fieldLink "RowWalks$Reader" 43 (TX8 6).1 (TX8 6).2.1 (TX8 6).2.2.1 ∈ TB := inT1 109 (by decide +kernel) rfl
theorem lf_Rd_51 : Cond.fieldLink "RowWalks$Reader" 51 (TX10 2).1 (TX10 2).2.1 (TX10 2).2.2.1 ∈ TB := inT1 39 (by decide +kernel) rfl
theorem lf_Rd_58 : Cond.fieldLink "RowWalks$Reader" 58 (TX10 3).1 (TX10 3).2.1 (TX10 3).2.2.1 ∈ TB := inT1 41 (by decide +kernel) rfl
theorem lf_Rd_76 : Cond.fieldLink "RowWalks$Reader" 76 (TX1 2).1 (TX1 2).2.1 (TX1 2).2.2.1 ∈ TB := inT1 72 (by decide +kernel) rfl
theorem lf_Rd_103 : Cond.fieldLink "RowWalks$Reader" 103 (TX1 1).1 (TX1 1).2.1 (TX1 1).2.2.1 ∈ TB := inT1 66 (by decide +kernel) rfl
theorem lf_Rd_118 : Cond.fieldLink "RowWalks$Reader" 118 (TX10 4).1 (TX10 4).2.1 (TX10 4).2.2.1 ∈ TB := inT1 44 (by decide +kernel) rfl
theorem lf_St_9 : Cond.fieldLink "RowWalks$Strip" 9 (TX9 1).1 (TX9 1).2.1 (TX9 1).2.2.1 ∈ TB := inT1 211 (by decide +kernel) rfl
theorem lf_St_15 : Cond.fieldLink "RowWalks$Strip" 15 (TX9 2).1 (TX9 2).2.1 (TX9 2).2.2.1 ∈ TB := inT1 212 (by decide +kernel) rfl
theorem lf_St_18 : Cond.fieldLink "RowWalks$Strip" 18 (TX9 3).1 (TX9 3).2.1 (TX9 3).2.2.1 ∈ TB := inT1 213 (by decide +kernel) rfl
theorem lf_St_21 : Cond.fieldLink "RowWalks$Strip" 21 (TX9 4).1 (TX9 4).2.1 (TX9 4).2.2.1 ∈ TB := inT1 214 (by decide +kernel) rfl
theorem lf_St_25 : Cond.fieldLink "RowWalks$Strip" 25 (TX9 5).1 (TX9 5).2.1 (TX9 5).2.2.1 ∈ TB := inT1 215 (by decide +kernel) rfl
theorem lf_St_28 : Cond.fieldLink "RowWalks$Strip" 28 (TX9 7).1 (TX9 7).2.1 (TX9 7).2.2.1 ∈ TB := inT1 217 (by decide +kernel) rfl
theorem lf_St_32 : Cond.fieldLink "RowWalks$Strip" 32 (TX9 8).1 (TX9 8).2.1 (TX9 8).2.2.1 ∈ TB := inT1 218 (by decide +kernel) rfl
theorem lf_St_35 : Cond.fieldLink "RowWalks$Strip" 35 (TX9 9).1 (TX9 9).2.1 (TX9 9).2.2.1 ∈ TB := inT1 219 (by decide +kernel) rfl
theorem lf_St_38 : Cond.fieldLink "RowWalks$Strip" 38 (TX9 10).1 (TX9 10).2.1 (TX9 10).2.2.1 ∈ TB := inT1 220 (by decide +kernel) rfl
theorem lf_St_41 : Cond.fieldLink "RowWalks$Strip" 41 (TX9 11).1 (TX9 11).2.1 (TX9 11).2.2.1 ∈ TB := inT1 221 (by decide +kernel) rfl
theorem lf_St_44 : Cond.fieldLink "RowWalks$Strip" 44 (TX9 12).1 (TX9 12).2.1 (TX9 12).2.2.1 ∈ TB := inT1 222 (by decide +kernel) rfl
theorem lf_St_47 : Cond.fieldLink "RowWalks$Strip" 47 (TX9 0).1 (TX9 0).2.1 (TX9 0).2.2.1 ∈ TB := inT1 210 (by decide +kernel) rfl
theorem lf_St_51 : Cond.fieldLink "RowWalks$Strip" 51 (TX1 3).1 (TX1 3).2.1 (TX1 3).2.2.1 ∈ TB := inT1 80 (by decide +kernel) rfl
theorem lf_St_56 : Cond.fieldLink "RowWalks$Strip" 56 (TX9 13).1 (TX9 13).2.1 (TX9 13).2.2.1 ∈ TB := inT1 223 (by decide +kernel) rfl
theorem lf_St_70 : Cond.fieldLink "RowWalks$Strip" 70 (TX9 14).1 (TX9 14).2.1 (TX9 14).2.2.1 ∈ TB := inT1 224 (by decide +kernel) rfl
theorem lf_St_84 : Cond.fieldLink "RowWalks$Strip" 84 (TX1 1).1 (TX1 1).2.1 (TX1 1).2.2.1 ∈ TB := inT1 65 (by decide +kernel) rfl
theorem lf_St_87 : Cond.fieldLink "RowWalks$Strip" 87 (TX9 6).1 (TX9 6).2.1 (TX9 6).2.2.1 ∈ TB := inT1 216 (by decide +kernel) rfl
theorem lf_St_122 : Cond.fieldLink "RowWalks$Strip" 122 (TX1 2).1 (TX1 2).2.1 (TX1 2).2.2.1 ∈ TB := inT1 78 (by decide +kernel) rfl
theorem lf_St_146 : Cond.fieldLink "RowWalks$Strip" 146 (TX9 15).1 (TX9 15).2.1 (TX9 15).2.2.1 ∈ TB := inT1 226 (by decide +kernel) rfl
theorem lf_St_150 : Cond.fieldLink "RowWalks$Strip" 150 (TX9 16).1 (TX9 16).2.1 (TX9 16).2.2.1 ∈ TB := inT1 228 (by decide +kernel) rfl
theorem lf_Tp_9 : Cond.fieldLink "RowWalks$Tape" 9 (TX10 0).1 (TX10 0).2.1 (TX10 0).2.2.1 ∈ TB := inT1 36 (by decide +kernel) rfl
theorem lf_Tp_15 : Cond.fieldLink "RowWalks$Tape" 15 (TX10 1).1 (TX10 1).2.1 (TX10 1).2.2.1 ∈ TB := inT1 38 (by decide +kernel) rfl
theorem lf_Tp_19 : Cond.fieldLink "RowWalks$Tape" 19 (TX10 4).1 (TX10 4).2.1 (TX10 4).2.2.1 ∈ TB := inT1 43 (by decide +kernel) rfl
theorem lf_Tp_25 : Cond.fieldLink "RowWalks$Tape" 25 (TX10 3).1 (TX10 3).2.1 (TX10 3).2.2.1 ∈ TB := inT1 42 (by decide +kernel) rfl
theorem lf_Tp_28 : Cond.fieldLink "RowWalks$Tape" 28 (TX10 2).1 (TX10 2).2.1 (TX10 2).2.2.1 ∈ TB := inT1 40 (by decide +kernel) rfl
theorem lf_M_7 : Cond.fieldLink "RowWalksModel" 7 (TX12 0).1 (TX12 0).2.1 (TX12 0).2.2.1 ∈ TB := inT6 183 (by decide +kernel) rfl
theorem lf_M_13 : Cond.fieldLink "RowWalksModel" 13 (TX12 8).1 (TX12 8).2.1 (TX12 8).2.2.1 ∈ TB := inT6 191 (by decide +kernel) rfl
theorem lf_M_17 : Cond.fieldLink "RowWalksModel" 17 (TX12 10).1 (TX12 10).2.1 (TX12 10).2.2.1 ∈ TB := inT6 193 (by decide +kernel) rfl
theorem lf_M_20 : Cond.fieldLink "RowWalksModel" 20 (TX12 12).1 (TX12 12).2.1 (TX12 12).2.2.1 ∈ TB := inT6 195 (by decide +kernel) rfl
theorem lf_M_23 : Cond.fieldLink "RowWalksModel" 23 (TX12 13).1 (TX12 13).2.1 (TX12 13).2.2.1 ∈ TB := inT6 196 (by decide +kernel) rfl
theorem lf_M_26 : Cond.fieldLink "RowWalksModel" 26 (TX12 14).1 (TX12 14).2.1 (TX12 14).2.2.1 ∈ TB := inT6 197 (by decide +kernel) rfl
theorem lf_M_30 : Cond.fieldLink "RowWalksModel" 30 (TX12 22).1 (TX12 22).2.1 (TX12 22).2.2.1 ∈ TB := inT6 205 (by decide +kernel) rfl
theorem lf_M_33 : Cond.fieldLink "RowWalksModel" 33 (TX12 23).1 (TX12 23).2.1 (TX12 23).2.2.1 ∈ TB := inT6 206 (by decide +kernel) rfl
theorem lf_M_36 : Cond.fieldLink "RowWalksModel" 36 (TX12 26).1 (TX12 26).2.1 (TX12 26).2.2.1 ∈ TB := inT6 209 (by decide +kernel) rfl
theorem lf_M_39 : Cond.fieldLink "RowWalksModel" 39 (TX12 27).1 (TX12 27).2.1 (TX12 27).2.2.1 ∈ TB := inT6 210 (by decide +kernel) rfl
theorem lf_M_42 : Cond.fieldLink "RowWalksModel" 42 (TX12 30).1 (TX12 30).2.1 (TX12 30).2.2.1 ∈ TB := inT6 213 (by decide +kernel) rfl
theorem lf_M_45 : Cond.fieldLink "RowWalksModel" 45 (TX12 31).1 (TX12 31).2.1 (TX12 31).2.2.1 ∈ TB := inT6 214 (by decide +kernel) rfl
theorem lf_M_48 : Cond.fieldLink "RowWalksModel" 48 (TX12 32).1 (TX12 32).2.1 (TX12 32).2.2.1 ∈ TB := inT6 215 (by decide +kernel) rfl
theorem lf_M_52 : Cond.fieldLink "RowWalksModel" 52 (TX12 33).1 (TX12 33).2.1 (TX12 33).2.2.1 ∈ TB := inT6 216 (by decide +kernel) rfl
theorem lf_M_55 : Cond.fieldLink "RowWalksModel" 55 (TX12 34).1 (TX12 34).2.1 (TX12 34).2.2.1 ∈ TB := inT6 217 (by decide +kernel) rfl
theorem lf_M_58 : Cond.fieldLink "RowWalksModel" 58 (TX12 35).1 (TX12 35).2.1 (TX12 35).2.2.1 ∈ TB := inT6 218 (by decide +kernel) rfl
theorem lf_M_62 : Cond.fieldLink "RowWalksModel" 62 (TX12 36).1 (TX12 36).2.1 (TX12 36).2.2.1 ∈ TB := inT6 219 (by decide +kernel) rfl
theorem lf_M_65 : Cond.fieldLink "RowWalksModel" 65 (TX12 37).1 (TX12 37).2.1 (TX12 37).2.2.1 ∈ TB := inT6 220 (by decide +kernel) rfl
theorem lf_M_68 : Cond.fieldLink "RowWalksModel" 68 (TX12 42).1 (TX12 42).2.1 (TX12 42).2.2.1 ∈ TB := inT6 225 (by decide +kernel) rfl
theorem lf_M_71 : Cond.fieldLink "RowWalksModel" 71 (TX12 43).1 (TX12 43).2.1 (TX12 43).2.2.1 ∈ TB := inT6 226 (by decide +kernel) rfl
theorem lf_M_74 : Cond.fieldLink "RowWalksModel" 74 (TX12 45).1 (TX12 45).2.1 (TX12 45).2.2.1 ∈ TB := inT6 228 (by decide +kernel) rfl
theorem lf_M_77 : Cond.fieldLink "RowWalksModel" 77 (TX12 46).1 (TX12 46).2.1 (TX12 46).2.2.1 ∈ TB := inT6 229 (by decide +kernel) rfl
theorem lf_M_80 : Cond.fieldLink "RowWalksModel" 80 (TX12 47).1 (TX12 47).2.1 (TX12 47).2.2.1 ∈ TB := inT6 230 (by decide +kernel) rfl
theorem lf_M_83 : Cond.fieldLink "RowWalksModel" 83 (TX12 48).1 (TX12 48).2.1 (TX12 48).2.2.1 ∈ TB := inT6 231 (by decide +kernel) rfl
theorem lf_M_86 : Cond.fieldLink "RowWalksModel" 86 (TX12 49).1 (TX12 49).2.1 (TX12 49).2.2.1 ∈ TB := inT6 232 (by decide +kernel) rfl
theorem lf_M_89 : Cond.fieldLink "RowWalksModel" 89 (TX12 50).1 (TX12 50).2.1 (TX12 50).2.2.1 ∈ TB := inT6 233 (by decide +kernel) rfl
theorem lf_M_92 : Cond.fieldLink "RowWalksModel" 92 (TX12 51).1 (TX12 51).2.1 (TX12 51).2.2.1 ∈ TB := inT6 234 (by decide +kernel) rfl
theorem lf_M_95 : Cond.fieldLink "RowWalksModel" 95 (TX12 59).1 (TX12 59).2.1 (TX12 59).2.2.1 ∈ TB := inT7 2 (by decide +kernel) rfl
theorem lf_M_98 : Cond.fieldLink "RowWalksModel" 98 (TX12 60).1 (TX12 60).2.1 (TX12 60).2.2.1 ∈ TB := inT7 3 (by decide +kernel) rfl
theorem lf_M_101 : Cond.fieldLink "RowWalksModel" 101 (TX12 61).1 (TX12 61).2.1 (TX12 61).2.2.1 ∈ TB := inT7 4 (by decide +kernel) rfl
theorem lf_M_104 : Cond.fieldLink "RowWalksModel" 104 (TX12 62).1 (TX12 62).2.1 (TX12 62).2.2.1 ∈ TB := inT7 5 (by decide +kernel) rfl
theorem lf_M_107 : Cond.fieldLink "RowWalksModel" 107 (TX12 68).1 (TX12 68).2.1 (TX12 68).2.2.1 ∈ TB := inT7 11 (by decide +kernel) rfl
theorem lf_M_110 : Cond.fieldLink "RowWalksModel" 110 (TX12 69).1 (TX12 69).2.1 (TX12 69).2.2.1 ∈ TB := inT7 12 (by decide +kernel) rfl
theorem lf_M_113 : Cond.fieldLink "RowWalksModel" 113 (TX12 70).1 (TX12 70).2.1 (TX12 70).2.2.1 ∈ TB := inT7 13 (by decide +kernel) rfl
theorem lf_M_116 : Cond.fieldLink "RowWalksModel" 116 (TX12 71).1 (TX12 71).2.1 (TX12 71).2.2.1 ∈ TB := inT7 14 (by decide +kernel) rfl
theorem lf_M_119 : Cond.fieldLink "RowWalksModel" 119 (TX12 72).1 (TX12 72).2.1 (TX12 72).2.2.1 ∈ TB := inT7 15 (by decide +kernel) rfl
theorem lf_M_122 : Cond.fieldLink "RowWalksModel" 122 (TX12 75).1 (TX12 75).2.1 (TX12 75).2.2.1 ∈ TB := inT7 18 (by decide +kernel) rfl
theorem lf_M_126 : Cond.fieldLink "RowWalksModel" 126 (TX12 76).1 (TX12 76).2.1 (TX12 76).2.2.1 ∈ TB := inT7 19 (by decide +kernel) rfl
theorem lf_M_129 : Cond.fieldLink "RowWalksModel" 129 (TX12 77).1 (TX12 77).2.1 (TX12 77).2.2.1 ∈ TB := inT7 20 (by decide +kernel) rfl
theorem lf_M_132 : Cond.fieldLink "RowWalksModel" 132 (TX12 78).1 (TX12 78).2.1 (TX12 78).2.2.1 ∈ TB := inT7 21 (by decide +kernel) rfl
theorem lf_M_141 : Cond.fieldLink "RowWalksModel" 141 (TX12 1).1 (TX12 1).2.1 (TX12 1).2.2.1 ∈ TB := inT6 184 (by decide +kernel) rfl
theorem lf_M_152 : Cond.fieldLink "RowWalksModel" 152 (TX12 3).1 (TX12 3).2.1 (TX12 3).2.2.1 ∈ TB := inT6 186 (by decide +kernel) rfl
theorem lf_M_155 : Cond.fieldLink "RowWalksModel" 155 (TX12 2).1 (TX12 2).2.1 (TX12 2).2.2.1 ∈ TB := inT6 185 (by decide +kernel) rfl
theorem lf_M_162 : Cond.fieldLink "RowWalksModel" 162 (TX12 4).1 (TX12 4).2.1 (TX12 4).2.2.1 ∈ TB := inT6 187 (by decide +kernel) rfl
theorem lf_M_165 : Cond.fieldLink "RowWalksModel" 165 (TX12 11).1 (TX12 11).2.1 (TX12 11).2.2.1 ∈ TB := inT6 194 (by decide +kernel) rfl
theorem lf_M_169 : Cond.fieldLink "RowWalksModel" 169 (TX12 6).1 (TX12 6).2.1 (TX12 6).2.2.1 ∈ TB := inT6 189 (by decide +kernel) rfl
theorem lf_M_172 : Cond.fieldLink "RowWalksModel" 172 (TX12 5).1 (TX12 5).2.1 (TX12 5).2.2.1 ∈ TB := inT6 188 (by decide +kernel) rfl
theorem lf_M_182 : Cond.fieldLink "RowWalksModel" 182 (TX12 7).1 (TX12 7).2.1 (TX12 7).2.2.1 ∈ TB := inT6 190 (by decide +kernel) rfl
theorem lf_M_199 : Cond.fieldLink "RowWalksModel" 199 (TX12 15).1 (TX12 15).2.1 (TX12 15).2.2.1 ∈ TB := inT6 198 (by decide +kernel) rfl
theorem lf_M_202 : Cond.fieldLink "RowWalksModel" 202 (TX12 16).1 (TX12 16).2.1 (TX12 16).2.2.1 ∈ TB := inT6 199 (by decide +kernel) rfl
theorem lf_M_205 : Cond.fieldLink "RowWalksModel" 205 (TX12 19).1 (TX12 19).2.1 (TX12 19).2.2.1 ∈ TB := inT6 202 (by decide +kernel) rfl
theorem lf_M_209 : Cond.fieldLink "RowWalksModel" 209 (TX12 20).1 (TX12 20).2.1 (TX12 20).2.2.1 ∈ TB := inT6 203 (by decide +kernel) rfl
theorem lf_M_212 : Cond.fieldLink "RowWalksModel" 212 (TX12 21).1 (TX12 21).2.1 (TX12 21).2.2.1 ∈ TB := inT6 204 (by decide +kernel) rfl
theorem lf_M_244 : Cond.fieldLink "RowWalksModel" 244 (TX12 17).1 (TX12 17).2.1 (TX12 17).2.2.1 ∈ TB := inT6 200 (by decide +kernel) rfl
theorem lf_M_247 : Cond.fieldLink "RowWalksModel" 247 (TX12 18).1 (TX12 18).2.1 (TX12 18).2.2.1 ∈ TB := inT6 201 (by decide +kernel) rfl
theorem lf_M_250 : Cond.fieldLink "RowWalksModel" 250 (TX12 24).1 (TX12 24).2.1 (TX12 24).2.2.1 ∈ TB := inT6 207 (by decide +kernel) rfl
theorem lf_M_253 : Cond.fieldLink "RowWalksModel" 253 (TX12 25).1 (TX12 25).2.1 (TX12 25).2.2.1 ∈ TB := inT6 208 (by decide +kernel) rfl
theorem lf_M_256 : Cond.fieldLink "RowWalksModel" 256 (TX12 73).1 (TX12 73).2.1 (TX12 73).2.2.1 ∈ TB := inT7 16 (by decide +kernel) rfl
theorem lf_M_259 : Cond.fieldLink "RowWalksModel" 259 (TX12 41).1 (TX12 41).2.1 (TX12 41).2.2.1 ∈ TB := inT6 224 (by decide +kernel) rfl
theorem lf_M_265 : Cond.fieldLink "RowWalksModel" 265 (TX12 9).1 (TX12 9).2.1 (TX12 9).2.2.1 ∈ TB := inT6 192 (by decide +kernel) rfl
theorem lf_M_328 : Cond.fieldLink "RowWalksModel" 328 (TX12 29).1 (TX12 29).2.1 (TX12 29).2.2.1 ∈ TB := inT6 212 (by decide +kernel) rfl
theorem lf_M_334 : Cond.fieldLink "RowWalksModel" 334 (TX12 28).1 (TX12 28).2.1 (TX12 28).2.2.1 ∈ TB := inT6 211 (by decide +kernel) rfl
theorem lf_M_377 : Cond.fieldLink "RowWalksModel" 377 (TX12 38).1 (TX12 38).2.1 (TX12 38).2.2.1 ∈ TB := inT6 221 (by decide +kernel) rfl
theorem lf_M_393 : Cond.fieldLink "RowWalksModel" 393 (TX12 39).1 (TX12 39).2.1 (TX12 39).2.2.1 ∈ TB := inT6 222 (by decide +kernel) rfl
theorem lf_M_396 : Cond.fieldLink "RowWalksModel" 396 (TX12 40).1 (TX12 40).2.1 (TX12 40).2.2.1 ∈ TB := inT6 223 (by decide +kernel) rfl
theorem lf_M_421 : Cond.fieldLink "RowWalksModel" 421 (TX12 44).1 (TX12 44).2.1 (TX12 44).2.2.1 ∈ TB := inT6 227 (by decide +kernel) rfl
theorem lf_M_434 : Cond.fieldLink "RowWalksModel" 434 (TX12 52).1 (TX12 52).2.1 (TX12 52).2.2.1 ∈ TB := inT6 235 (by decide +kernel) rfl
theorem lf_M_437 : Cond.fieldLink "RowWalksModel" 437 (TX12 53).1 (TX12 53).2.1 (TX12 53).2.2.1 ∈ TB := inT6 236 (by decide +kernel) rfl
theorem lf_M_464 : Cond.fieldLink "RowWalksModel" 464 (TX12 58).1 (TX12 58).2.1 (TX12 58).2.2.1 ∈ TB := inT7 1 (by decide +kernel) rfl
theorem lf_M_470 : Cond.fieldLink "RowWalksModel" 470 (TX12 55).1 (TX12 55).2.1 (TX12 55).2.2.1 ∈ TB := inT6 238 (by decide +kernel) rfl
theorem lf_M_473 : Cond.fieldLink "RowWalksModel" 473 (TX12 54).1 (TX12 54).2.1 (TX12 54).2.2.1 ∈ TB := inT6 237 (by decide +kernel) rfl
theorem lf_M_476 : Cond.fieldLink "RowWalksModel" 476 (TX12 56).1 (TX12 56).2.1 (TX12 56).2.2.1 ∈ TB := inT6 239 (by decide +kernel) rfl
theorem lf_M_485 : Cond.fieldLink "RowWalksModel" 485 (TX12 57).1 (TX12 57).2.1 (TX12 57).2.2.1 ∈ TB := inT7 0 (by decide +kernel) rfl
theorem lf_M_491 : Cond.fieldLink "RowWalksModel" 491 (TX12 63).1 (TX12 63).2.1 (TX12 63).2.2.1 ∈ TB := inT7 6 (by decide +kernel) rfl
theorem lf_M_494 : Cond.fieldLink "RowWalksModel" 494 (TX12 64).1 (TX12 64).2.1 (TX12 64).2.2.1 ∈ TB := inT7 7 (by decide +kernel) rfl
theorem lf_M_497 : Cond.fieldLink "RowWalksModel" 497 (TX12 65).1 (TX12 65).2.1 (TX12 65).2.2.1 ∈ TB := inT7 8 (by decide +kernel) rfl
theorem lf_M_515 : Cond.fieldLink "RowWalksModel" 515 (TX12 66).1 (TX12 66).2.1 (TX12 66).2.2.1 ∈ TB := inT7 9 (by decide +kernel) rfl
theorem lf_M_518 : Cond.fieldLink "RowWalksModel" 518 (TX12 67).1 (TX12 67).2.1 (TX12 67).2.2.1 ∈ TB := inT7 10 (by decide +kernel) rfl
theorem lf_M_527 : Cond.fieldLink "RowWalksModel" 527 (TX12 74).1 (TX12 74).2.1 (TX12 74).2.2.1 ∈ TB := inT7 17 (by decide +kernel) rfl
theorem lf_JS_9 : Cond.fieldLink "java/lang/String" 9 "java/lang/String" "value" "[B" ∈ TB := inT9 234 (by decide +kernel) rfl
theorem lf_JS_15 : Cond.fieldLink "java/lang/String" 15 "java/lang/String" "coder" "B" ∈ TB := inT9 235 (by decide +kernel) rfl
theorem lf_JS_38 : Cond.fieldLink "java/lang/String" 38 "java/lang/String" "COMPACT_STRINGS" "Z" ∈ TB := inT3 141 (by decide +kernel) rfl
theorem lf_JS_1053 : Cond.fieldLink "java/lang/String" 1053 "jdk/internal/util/Preconditions" "SIOOBE_FORMATTER" "Ljava/util/function/BiFunction;" ∈ TB := inT3 157 (by decide +kernel) rfl
theorem ll_X_1 : Cond.methodLink "RowWalks" 1 Lib.objectInit ∈ TB := inT1 27 (by decide +kernel) rfl
theorem ll_X_18 : Cond.methodLink "RowWalks" 18 ⟨"RowWalks$Columns", "<init>", "()V"⟩ ∈ TB := inT1 59 (by decide +kernel) rfl
theorem ll_X_28 : Cond.methodLink "RowWalks" 28 ⟨"RowWalks$Reader", "<init>", "(LRowWalks$Tape;)V"⟩ ∈ TB := inT1 96 (by decide +kernel) rfl
theorem ll_X_59 : Cond.methodLink "RowWalks" 59 ⟨"RowWalks$Strip", "<init>", "(LRowWalks$Columns;)V"⟩ ∈ TB := inT1 206 (by decide +kernel) rfl
theorem ll_X_68 : Cond.methodLink "RowWalks" 68 ⟨"RowWalks$Optimum", "<init>", "(LRowWalks$Columns;LRowWalks$PlanSearch;)V"⟩ ∈ TB := inT2 28 (by decide +kernel) rfl
theorem ll_X_77 : Cond.methodLink "RowWalks" 77 ⟨"RowWalks$Corners", "<init>", "(LRowWalks$Columns;)V"⟩ ∈ TB := inT2 84 (by decide +kernel) rfl
theorem ll_X_84 : Cond.methodLink "RowWalks" 84 ⟨"RowWalks$Exchange", "<init>", "(LRowWalks$Columns;)V"⟩ ∈ TB := inT2 135 (by decide +kernel) rfl
theorem ll_X_91 : Cond.methodLink "RowWalks" 91 ⟨"RowWalks$Doubling", "<init>", "(LRowWalks$Columns;)V"⟩ ∈ TB := inT2 184 (by decide +kernel) rfl
theorem ll_X_98 : Cond.methodLink "RowWalks" 98 ⟨"RowWalks$Knowledge", "<init>", "(LRowWalks$Columns;LRowWalks$PlanSearch;)V"⟩ ∈ TB := inT2 228 (by decide +kernel) rfl
theorem ll_X_111 : Cond.methodLink "RowWalks" 111 ⟨"RowWalks$Tape", "put", "(I)V"⟩ ∈ TB := inT3 77 (by decide +kernel) rfl
theorem ll_X_115 : Cond.methodLink "RowWalks" 115 ⟨"RowWalks$Reader", "read", "()Z"⟩ ∈ TB := inT3 89 (by decide +kernel) rfl
theorem ll_X_122 : Cond.methodLink "RowWalks" 122 ⟨"RowWalks$Columns", "copyFrom", "(LRowWalks$Columns;)V"⟩ ∈ TB := inT3 238 (by decide +kernel) rfl
theorem ll_X_125 : Cond.methodLink "RowWalks" 125 ⟨"RowWalks$Acts", "forget", "()V"⟩ ∈ TB := inT4 5 (by decide +kernel) rfl
theorem ll_X_128 : Cond.methodLink "RowWalks" 128 ⟨"RowWalks$Knowledge", "forget", "()V"⟩ ∈ TB := inT4 9 (by decide +kernel) rfl
theorem ll_X_138 : Cond.methodLink "RowWalks" 138 ⟨"RowWalks$Columns", "hasColumn", "(I)Z"⟩ ∈ TB := inT4 22 (by decide +kernel) rfl
theorem ll_X_142 : Cond.methodLink "RowWalks" 142 ⟨"RowWalks$Columns", "hasRow", "(I)Z"⟩ ∈ TB := inT4 26 (by decide +kernel) rfl
theorem ll_X_146 : Cond.methodLink "RowWalks" 146 ⟨"RowWalks$Columns", "numberOf", "(II)I"⟩ ∈ TB := inT4 31 (by decide +kernel) rfl
theorem ll_X_150 : Cond.methodLink "RowWalks" 150 ⟨"RowWalks$Columns", "gainOf", "(I)I"⟩ ∈ TB := inT4 39 (by decide +kernel) rfl
theorem ll_X_154 : Cond.methodLink "RowWalks" 154 ⟨"RowWalks$Columns", "needOf", "(I)I"⟩ ∈ TB := inT4 47 (by decide +kernel) rfl
theorem ll_X_157 : Cond.methodLink "RowWalks" 157 ⟨"RowWalks", "turn", "(IIII)I"⟩ ∈ TB := inT4 55 (by decide +kernel) rfl
theorem ll_X_161 : Cond.methodLink "RowWalks" 161 ⟨"RowWalks$Columns", "get", "(I)I"⟩ ∈ TB := inT4 59 (by decide +kernel) rfl
theorem ll_X_164 : Cond.methodLink "RowWalks" 164 ⟨"RowWalks$Columns", "put", "(II)V"⟩ ∈ TB := inT4 63 (by decide +kernel) rfl
theorem ll_X_167 : Cond.methodLink "RowWalks" 167 ⟨"RowWalks$Acts", "keep", "(III)V"⟩ ∈ TB := inT4 64 (by decide +kernel) rfl
theorem ll_X_171 : Cond.methodLink "RowWalks" 171 ⟨"RowWalks$Exchange", "find", "(I)Z"⟩ ∈ TB := inT4 92 (by decide +kernel) rfl
theorem ll_X_174 : Cond.methodLink "RowWalks" 174 ⟨"RowWalks$Acts", "keepShifts", "(LRowWalks$Exchange;)V"⟩ ∈ TB := inT4 137 (by decide +kernel) rfl
theorem ll_X_178 : Cond.methodLink "RowWalks" 178 ⟨"RowWalks$Acts", "latest", "()I"⟩ ∈ TB := inT4 146 (by decide +kernel) rfl
theorem ll_X_182 : Cond.methodLink "RowWalks" 182 ⟨"RowWalks$Acts", "apply", "(LRowWalks$Columns;II)V"⟩ ∈ TB := inT4 147 (by decide +kernel) rfl
theorem ll_X_186 : Cond.methodLink "RowWalks" 186 ⟨"RowWalks$Columns", "heldGain", "()I"⟩ ∈ TB := inT4 153 (by decide +kernel) rfl
theorem ll_X_189 : Cond.methodLink "RowWalks" 189 ⟨"RowWalks$Acts", "takeBack", "(LRowWalks$Columns;)Z"⟩ ∈ TB := inT4 163 (by decide +kernel) rfl
theorem ll_X_193 : Cond.methodLink "RowWalks" 193 ⟨"RowWalks$Acts", "doAgain", "(LRowWalks$Columns;)Z"⟩ ∈ TB := inT4 172 (by decide +kernel) rfl
theorem ll_X_196 : Cond.methodLink "RowWalks" 196 ⟨"RowWalks$Columns", "heldOf", "(I)I"⟩ ∈ TB := inT4 180 (by decide +kernel) rfl
theorem ll_X_199 : Cond.methodLink "RowWalks" 199 ⟨"RowWalks$Columns", "heldSteps", "()I"⟩ ∈ TB := inT4 185 (by decide +kernel) rfl
theorem ll_X_202 : Cond.methodLink "RowWalks" 202 ⟨"RowWalks$Columns", "heldSums", "([I)V"⟩ ∈ TB := inT4 189 (by decide +kernel) rfl
theorem ll_X_206 : Cond.methodLink "RowWalks" 206 ⟨"RowWalks$Columns", "farFromNeed", "([I)I"⟩ ∈ TB := inT4 198 (by decide +kernel) rfl
theorem ll_X_219 : Cond.methodLink "RowWalks" 219 ⟨"RowWalks$Exchange", "shiftOf", "(I)I"⟩ ∈ TB := inT4 210 (by decide +kernel) rfl
theorem ll_X_222 : Cond.methodLink "RowWalks" 222 ⟨"RowWalks", "isLength", "(I)Z"⟩ ∈ TB := inT4 218 (by decide +kernel) rfl
theorem ll_X_225 : Cond.methodLink "RowWalks" 225 ⟨"RowWalks", "isStrip", "(II)Z"⟩ ∈ TB := inT4 215 (by decide +kernel) rfl
theorem ll_X_229 : Cond.methodLink "RowWalks" 229 ⟨"RowWalks$Strip", "sweep", "(II)V"⟩ ∈ TB := inT4 221 (by decide +kernel) rfl
theorem ll_X_244 : Cond.methodLink "RowWalks" 244 ⟨"RowWalks$Strip", "columnAt", "(I)I"⟩ ∈ TB := inT5 60 (by decide +kernel) rfl
theorem ll_X_247 : Cond.methodLink "RowWalks" 247 ⟨"RowWalks", "countPlans", "(II)I"⟩ ∈ TB := inT5 70 (by decide +kernel) rfl
theorem ll_X_250 : Cond.methodLink "RowWalks" 250 ⟨"RowWalks$PlanSearch", "run", "(LRowWalks$Columns;II[II)V"⟩ ∈ TB := inT5 74 (by decide +kernel) rfl
theorem ll_X_257 : Cond.methodLink "RowWalks" 257 ⟨"RowWalks$Optimum", "find", "()Z"⟩ ∈ TB := inT5 117 (by decide +kernel) rfl
theorem ll_X_261 : Cond.methodLink "RowWalks" 261 ⟨"RowWalks$Optimum", "oftenOf", "(I)I"⟩ ∈ TB := inT5 170 (by decide +kernel) rfl
theorem ll_X_265 : Cond.methodLink "RowWalks" 265 ⟨"RowWalks$Optimum", "columnAt", "(I)I"⟩ ∈ TB := inT5 183 (by decide +kernel) rfl
theorem ll_X_272 : Cond.methodLink "RowWalks" 272 ⟨"RowWalks$Doubling", "raise", "(II)V"⟩ ∈ TB := inT5 199 (by decide +kernel) rfl
theorem ll_X_279 : Cond.methodLink "RowWalks" 279 ⟨"RowWalks$Doubling", "sizeOf", "(I)I"⟩ ∈ TB := inT5 224 (by decide +kernel) rfl
theorem ll_X_282 : Cond.methodLink "RowWalks" 282 ⟨"RowWalks$Corners", "find", "()V"⟩ ∈ TB := inT5 232 (by decide +kernel) rfl
theorem ll_X_299 : Cond.methodLink "RowWalks" 299 ⟨"RowWalks", "part", "(JJI)I"⟩ ∈ TB := inT6 33 (by decide +kernel) rfl
theorem ll_X_303 : Cond.methodLink "RowWalks" 303 ⟨"RowWalks$Corners", "isThere", "()Z"⟩ ∈ TB := inT6 46 (by decide +kernel) rfl
theorem ll_X_306 : Cond.methodLink "RowWalks" 306 ⟨"RowWalks$Corners", "upperOf", "(I)J"⟩ ∈ TB := inT6 50 (by decide +kernel) rfl
theorem ll_X_310 : Cond.methodLink "RowWalks" 310 ⟨"java/lang/Math", "abs", "(J)J"⟩ ∈ TB := inT6 36 (by decide +kernel) rfl
theorem ll_X_316 : Cond.methodLink "RowWalks" 316 ⟨"RowWalks", "commonDivisor", "(JJ)J"⟩ ∈ TB := inT6 39 (by decide +kernel) rfl
theorem ll_X_320 : Cond.methodLink "RowWalks" 320 ⟨"RowWalks", "drawnStray", "(II)I"⟩ ∈ TB := inT6 66 (by decide +kernel) rfl
theorem ll_X_323 : Cond.methodLink "RowWalks" 323 ⟨"RowWalks", "drawSums", "(II)I"⟩ ∈ TB := inT6 77 (by decide +kernel) rfl
theorem ll_X_326 : Cond.methodLink "RowWalks" 326 ⟨"java/util/Arrays", "fill", "([II)V"⟩ ∈ TB := inT6 70 (by decide +kernel) rfl
theorem ll_X_332 : Cond.methodLink "RowWalks" 332 ⟨"RowWalks", "draw", "(I)I"⟩ ∈ TB := inT6 71 (by decide +kernel) rfl
theorem ll_X_335 : Cond.methodLink "RowWalks" 335 ⟨"RowWalks$Columns", "addTo", "([III)V"⟩ ∈ TB := inT6 74 (by decide +kernel) rfl
theorem ll_X_339 : Cond.methodLink "RowWalks" 339 ⟨"RowWalks$Columns", "strayAt", "([III)I"⟩ ∈ TB := inT6 75 (by decide +kernel) rfl
theorem ll_X_343 : Cond.methodLink "RowWalks" 343 ⟨"java/lang/Math", "max", "(II)I"⟩ ∈ TB := inT6 76 (by decide +kernel) rfl
theorem ll_X_346 : Cond.methodLink "RowWalks" 346 ⟨"RowWalks", "isSeenLength", "(I)Z"⟩ ∈ TB := inT6 89 (by decide +kernel) rfl
theorem ll_X_349 : Cond.methodLink "RowWalks" 349 ⟨"RowWalks", "isSeenSum", "(I)Z"⟩ ∈ TB := inT6 92 (by decide +kernel) rfl
theorem ll_X_355 : Cond.methodLink "RowWalks" 355 ⟨"RowWalks$Knowledge", "tell", "(I[IZ)I"⟩ ∈ TB := inT6 95 (by decide +kernel) rfl
theorem ll_X_359 : Cond.methodLink "RowWalks" 359 ⟨"RowWalks$Knowledge", "takeAway", "(I)Z"⟩ ∈ TB := inT6 104 (by decide +kernel) rfl
theorem ll_X_366 : Cond.methodLink "RowWalks" 366 ⟨"RowWalks$Knowledge", "fitting", "(I)I"⟩ ∈ TB := inT6 117 (by decide +kernel) rfl
theorem ll_X_369 : Cond.methodLink "RowWalks" 369 ⟨"java/lang/Integer", "bitCount", "(I)I"⟩ ∈ TB := inT6 125 (by decide +kernel) rfl
theorem ll_X_374 : Cond.methodLink "RowWalks" 374 ⟨"RowWalks$Knowledge", "chooseAsk", "(II)V"⟩ ∈ TB := inT6 134 (by decide +kernel) rfl
theorem ll_X_383 : Cond.methodLink "RowWalks" 383 ⟨"RowWalks$Columns", "steps", "()I"⟩ ∈ TB := inT6 162 (by decide +kernel) rfl
theorem ll_X_386 : Cond.methodLink "RowWalks" 386 ⟨"RowWalks$Columns", "greatestNumber", "()I"⟩ ∈ TB := inT6 163 (by decide +kernel) rfl
theorem ll_Ac_3 : Cond.methodLink "RowWalks$Acts" 3 Lib.objectInit ∈ TB := inT1 136 (by decide +kernel) rfl
theorem ll_Ac_34 : Cond.methodLink "RowWalks$Acts" 34 ⟨"RowWalks$Acts", "latest", "()I"⟩ ∈ TB := inT4 68 (by decide +kernel) rfl
theorem ll_Ac_38 : Cond.methodLink "RowWalks$Acts" 38 ⟨"RowWalks$Acts", "keep", "(III)V"⟩ ∈ TB := inT4 141 (by decide +kernel) rfl
theorem ll_Ac_42 : Cond.methodLink "RowWalks$Acts" 42 ⟨"RowWalks$Exchange", "shiftOf", "(I)I"⟩ ∈ TB := inT4 142 (by decide +kernel) rfl
theorem ll_Ac_48 : Cond.methodLink "RowWalks$Acts" 48 ⟨"RowWalks$Columns", "put", "(II)V"⟩ ∈ TB := inT4 151 (by decide +kernel) rfl
theorem ll_Ac_57 : Cond.methodLink "RowWalks$Acts" 57 ⟨"RowWalks$Columns", "get", "(I)I"⟩ ∈ TB := inT4 152 (by decide +kernel) rfl
theorem ll_Ac_60 : Cond.methodLink "RowWalks$Acts" 60 ⟨"RowWalks$Acts", "apply", "(LRowWalks$Columns;II)V"⟩ ∈ TB := inT4 167 (by decide +kernel) rfl
theorem ll_Co_5 : Cond.methodLink "RowWalks$Columns" 5 Lib.objectInit ∈ TB := inT1 62 (by decide +kernel) rfl
theorem ll_Co_19 : Cond.methodLink "RowWalks$Columns" 19 ⟨"java/util/Arrays", "fill", "([II)V"⟩ ∈ TB := inT3 97 (by decide +kernel) rfl
theorem ll_Co_31 : Cond.methodLink "RowWalks$Columns" 31 arraycopyName ∈ TB := inT4 2 (by decide +kernel) rfl
theorem ll_Co_37 : Cond.methodLink "RowWalks$Columns" 37 ⟨"java/lang/Math", "abs", "(I)I"⟩ ∈ TB := inT4 203 (by decide +kernel) rfl
theorem ll_Co_43 : Cond.methodLink "RowWalks$Columns" 43 ⟨"java/lang/Math", "max", "(II)I"⟩ ∈ TB := inT5 151 (by decide +kernel) rfl
theorem ll_Co_47 : Cond.methodLink "RowWalks$Columns" 47 ⟨"RowWalks$Columns", "numberOf", "(II)I"⟩ ∈ TB := inT4 197 (by decide +kernel) rfl
theorem ll_Co_50 : Cond.methodLink "RowWalks$Columns" 50 ⟨"RowWalks$Columns", "needOf", "(I)I"⟩ ∈ TB := inT4 202 (by decide +kernel) rfl
theorem ll_Co_53 : Cond.methodLink "RowWalks$Columns" 53 ⟨"RowWalks$Columns", "heldOf", "(I)I"⟩ ∈ TB := inT4 157 (by decide +kernel) rfl
theorem ll_Co_56 : Cond.methodLink "RowWalks$Columns" 56 ⟨"RowWalks$Columns", "addTo", "([III)V"⟩ ∈ TB := inT4 193 (by decide +kernel) rfl
theorem ll_Co_60 : Cond.methodLink "RowWalks$Columns" 60 ⟨"RowWalks$Columns", "gainOf", "(I)I"⟩ ∈ TB := inT4 158 (by decide +kernel) rfl
theorem ll_Cr_5 : Cond.methodLink "RowWalks$Corners" 5 Lib.objectInit ∈ TB := inT2 87 (by decide +kernel) rfl
theorem ll_Cr_52 : Cond.methodLink "RowWalks$Corners" 52 ⟨"RowWalks$Corners", "solve", "(II)Z"⟩ ∈ TB := inT5 236 (by decide +kernel) rfl
theorem ll_Cr_56 : Cond.methodLink "RowWalks$Corners" 56 ⟨"RowWalks$Corners", "takeIfBetter", "(I)V"⟩ ∈ TB := inT6 21 (by decide +kernel) rfl
theorem ll_Cr_60 : Cond.methodLink "RowWalks$Corners" 60 ⟨"RowWalks$Corners", "solvedGain", "()J"⟩ ∈ TB := inT6 25 (by decide +kernel) rfl
theorem ll_Cr_73 : Cond.methodLink "RowWalks$Corners" 73 ⟨"java/util/Arrays", "fill", "([JJ)V"⟩ ∈ TB := inT6 30 (by decide +kernel) rfl
theorem ll_Cr_82 : Cond.methodLink "RowWalks$Corners" 82 ⟨"RowWalks$Columns", "gainOf", "(I)I"⟩ ∈ TB := inT6 29 (by decide +kernel) rfl
theorem ll_Cr_86 : Cond.methodLink "RowWalks$Corners" 86 ⟨"java/lang/Integer", "bitCount", "(I)I"⟩ ∈ TB := inT6 0 (by decide +kernel) rfl
theorem ll_Cr_91 : Cond.methodLink "RowWalks$Corners" 91 ⟨"RowWalks$Corners", "fill", "(II)V"⟩ ∈ TB := inT6 6 (by decide +kernel) rfl
theorem ll_Cr_94 : Cond.methodLink "RowWalks$Corners" 94 ⟨"RowWalks$Corners", "eliminate", "(II)Z"⟩ ∈ TB := inT6 12 (by decide +kernel) rfl
theorem ll_Cr_97 : Cond.methodLink "RowWalks$Corners" 97 ⟨"RowWalks$Corners", "isAboveNothing", "()Z"⟩ ∈ TB := inT6 16 (by decide +kernel) rfl
theorem ll_Cr_101 : Cond.methodLink "RowWalks$Corners" 101 ⟨"RowWalks$Columns", "numberOf", "(II)I"⟩ ∈ TB := inT6 10 (by decide +kernel) rfl
theorem ll_Cr_105 : Cond.methodLink "RowWalks$Corners" 105 ⟨"RowWalks$Columns", "needOf", "(I)I"⟩ ∈ TB := inT6 11 (by decide +kernel) rfl
theorem ll_Db_5 : Cond.methodLink "RowWalks$Doubling" 5 Lib.objectInit ∈ TB := inT2 187 (by decide +kernel) rfl
theorem ll_Db_50 : Cond.methodLink "RowWalks$Doubling" 50 ⟨"RowWalks$Doubling", "beginLevel", "(II)V"⟩ ∈ TB := inT5 203 (by decide +kernel) rfl
theorem ll_Db_54 : Cond.methodLink "RowWalks$Doubling" 54 ⟨"RowWalks$Doubling", "addSum", "(IIII)V"⟩ ∈ TB := inT5 211 (by decide +kernel) rfl
theorem ll_Db_61 : Cond.methodLink "RowWalks$Doubling" 61 ⟨"RowWalks$Columns", "numberOf", "(II)I"⟩ ∈ TB := inT5 219 (by decide +kernel) rfl
theorem ll_Db_68 : Cond.methodLink "RowWalks$Doubling" 68 ⟨"RowWalks$Doubling", "addPairs", "(II)V"⟩ ∈ TB := inT5 220 (by decide +kernel) rfl
theorem ll_Db_71 : Cond.methodLink "RowWalks$Doubling" 71 ⟨"RowWalks$Columns", "needOf", "(I)I"⟩ ∈ TB := inT5 209 (by decide +kernel) rfl
theorem ll_Db_75 : Cond.methodLink "RowWalks$Doubling" 75 ⟨"RowWalks$Doubling", "offsetOf", "(III)I"⟩ ∈ TB := inT5 215 (by decide +kernel) rfl
theorem ll_Db_82 : Cond.methodLink "RowWalks$Doubling" 82 ⟨"java/util/Arrays", "fill", "([II)V"⟩ ∈ TB := inT5 207 (by decide +kernel) rfl
theorem ll_Db_88 : Cond.methodLink "RowWalks$Doubling" 88 ⟨"java/lang/Math", "max", "(II)I"⟩ ∈ TB := inT5 208 (by decide +kernel) rfl
theorem ll_Db_93 : Cond.methodLink "RowWalks$Doubling" 93 ⟨"java/lang/Math", "floorDiv", "(II)I"⟩ ∈ TB := inT5 210 (by decide +kernel) rfl
theorem ll_Ex_3 : Cond.methodLink "RowWalks$Exchange" 3 Lib.objectInit ∈ TB := inT2 138 (by decide +kernel) rfl
theorem ll_Ex_44 : Cond.methodLink "RowWalks$Exchange" 44 ⟨"RowWalks$Exchange", "listPlans", "()V"⟩ ∈ TB := inT4 96 (by decide +kernel) rfl
theorem ll_Ex_47 : Cond.methodLink "RowWalks$Exchange" 47 ⟨"RowWalks$Exchange", "findBest", "(I)V"⟩ ∈ TB := inT4 113 (by decide +kernel) rfl
theorem ll_Ex_57 : Cond.methodLink "RowWalks$Exchange" 57 ⟨"RowWalks$Exchange", "times", "(II)I"⟩ ∈ TB := inT4 129 (by decide +kernel) rfl
theorem ll_Ex_64 : Cond.methodLink "RowWalks$Exchange" 64 ⟨"RowWalks$Exchange", "extend", "(II)I"⟩ ∈ TB := inT4 100 (by decide +kernel) rfl
theorem ll_Ex_67 : Cond.methodLink "RowWalks$Exchange" 67 ⟨"java/lang/Math", "max", "(II)I"⟩ ∈ TB := inT4 104 (by decide +kernel) rfl
theorem ll_Ex_75 : Cond.methodLink "RowWalks$Exchange" 75 ⟨"RowWalks$Exchange", "keyOf", "(I)I"⟩ ∈ TB := inT4 107 (by decide +kernel) rfl
theorem ll_Ex_79 : Cond.methodLink "RowWalks$Exchange" 79 ⟨"RowWalks$Columns", "gainOf", "(I)I"⟩ ∈ TB := inT4 112 (by decide +kernel) rfl
theorem ll_Ex_82 : Cond.methodLink "RowWalks$Exchange" 82 ⟨"RowWalks$Columns", "numberOf", "(II)I"⟩ ∈ TB := inT4 111 (by decide +kernel) rfl
theorem ll_Ex_85 : Cond.methodLink "RowWalks$Exchange" 85 ⟨"RowWalks$Exchange", "compareSizes", "(II)V"⟩ ∈ TB := inT4 117 (by decide +kernel) rfl
theorem ll_Ex_89 : Cond.methodLink "RowWalks$Exchange" 89 ⟨"RowWalks$Exchange", "isHeld", "(I)Z"⟩ ∈ TB := inT4 121 (by decide +kernel) rfl
theorem ll_Ex_93 : Cond.methodLink "RowWalks$Exchange" 93 ⟨"RowWalks$Exchange", "hasPlace", "(II)Z"⟩ ∈ TB := inT4 133 (by decide +kernel) rfl
theorem ll_Ex_103 : Cond.methodLink "RowWalks$Exchange" 103 ⟨"RowWalks$Columns", "heldOf", "(I)I"⟩ ∈ TB := inT4 125 (by decide +kernel) rfl
theorem ll_Kn_5 : Cond.methodLink "RowWalks$Knowledge" 5 Lib.objectInit ∈ TB := inT2 231 (by decide +kernel) rfl
theorem ll_Kn_39 : Cond.methodLink "RowWalks$Knowledge" 39 ⟨"RowWalks$PlanSearch", "run", "(LRowWalks$Columns;II[II)V"⟩ ∈ TB := inT6 99 (by decide +kernel) rfl
theorem ll_Kn_51 : Cond.methodLink "RowWalks$Knowledge" 51 ⟨"RowWalks$Columns", "isNothing", "(I)Z"⟩ ∈ TB := inT6 121 (by decide +kernel) rfl
theorem ll_Kn_55 : Cond.methodLink "RowWalks$Knowledge" 55 ⟨"RowWalks$Knowledge", "reachRow", "(I)I"⟩ ∈ TB := inT6 138 (by decide +kernel) rfl
theorem ll_Kn_59 : Cond.methodLink "RowWalks$Knowledge" 59 ⟨"java/lang/Integer", "bitCount", "(I)I"⟩ ∈ TB := inT6 149 (by decide +kernel) rfl
theorem ll_Kn_67 : Cond.methodLink "RowWalks$Knowledge" 67 ⟨"java/lang/Math", "max", "(II)I"⟩ ∈ TB := inT6 148 (by decide +kernel) rfl
theorem ll_Kn_76 : Cond.methodLink "RowWalks$Knowledge" 76 ⟨"java/util/Arrays", "fill", "([II)V"⟩ ∈ TB := inT6 142 (by decide +kernel) rfl
theorem ll_Kn_82 : Cond.methodLink "RowWalks$Knowledge" 82 ⟨"RowWalks$Columns", "numberOf", "(II)I"⟩ ∈ TB := inT6 143 (by decide +kernel) rfl
theorem ll_Kn_85 : Cond.methodLink "RowWalks$Knowledge" 85 ⟨"RowWalks$Knowledge", "shiftRow", "(IIII)V"⟩ ∈ TB := inT6 144 (by decide +kernel) rfl
theorem ll_Op_3 : Cond.methodLink "RowWalks$Optimum" 3 Lib.objectInit ∈ TB := inT2 31 (by decide +kernel) rfl
theorem ll_Op_48 : Cond.methodLink "RowWalks$Optimum" 48 ⟨"RowWalks$Optimum", "findPlan", "()V"⟩ ∈ TB := inT5 121 (by decide +kernel) rfl
theorem ll_Op_54 : Cond.methodLink "RowWalks$Optimum" 54 ⟨"RowWalks$Optimum", "findOrder", "()V"⟩ ∈ TB := inT5 133 (by decide +kernel) rfl
theorem ll_Op_57 : Cond.methodLink "RowWalks$Optimum" 57 ⟨"RowWalks$Optimum", "straySorted", "()I"⟩ ∈ TB := inT5 162 (by decide +kernel) rfl
theorem ll_Op_64 : Cond.methodLink "RowWalks$Optimum" 64 ⟨"RowWalks$Columns", "steps", "()I"⟩ ∈ TB := inT5 125 (by decide +kernel) rfl
theorem ll_Op_67 : Cond.methodLink "RowWalks$Optimum" 67 ⟨"RowWalks$Columns", "needOf", "(I)I"⟩ ∈ TB := inT5 129 (by decide +kernel) rfl
theorem ll_Op_74 : Cond.methodLink "RowWalks$Optimum" 74 ⟨"RowWalks$PlanSearch", "run", "(LRowWalks$Columns;II[II)V"⟩ ∈ TB := inT5 131 (by decide +kernel) rfl
theorem ll_Op_91 : Cond.methodLink "RowWalks$Optimum" 91 arraycopyName ∈ TB := inT5 132 (by decide +kernel) rfl
theorem ll_Op_103 : Cond.methodLink "RowWalks$Optimum" 103 ⟨"RowWalks$Optimum", "strayAtPart", "(I)I"⟩ ∈ TB := inT5 137 (by decide +kernel) rfl
theorem ll_Op_106 : Cond.methodLink "RowWalks$Optimum" 106 ⟨"RowWalks$Optimum", "leastBehind", "(I)I"⟩ ∈ TB := inT5 152 (by decide +kernel) rfl
theorem ll_Op_109 : Cond.methodLink "RowWalks$Optimum" 109 ⟨"java/lang/Math", "max", "(II)I"⟩ ∈ TB := inT5 157 (by decide +kernel) rfl
theorem ll_Op_118 : Cond.methodLink "RowWalks$Optimum" 118 ⟨"RowWalks$Optimum", "firstWithin", "(I)I"⟩ ∈ TB := inT5 158 (by decide +kernel) rfl
theorem ll_Op_121 : Cond.methodLink "RowWalks$Optimum" 121 ⟨"java/util/Arrays", "fill", "([II)V"⟩ ∈ TB := inT5 141 (by decide +kernel) rfl
theorem ll_Op_127 : Cond.methodLink "RowWalks$Optimum" 127 ⟨"RowWalks$Optimum", "takenAt", "(II)I"⟩ ∈ TB := inT5 142 (by decide +kernel) rfl
theorem ll_Op_130 : Cond.methodLink "RowWalks$Optimum" 130 ⟨"RowWalks$Columns", "addTo", "([III)V"⟩ ∈ TB := inT5 146 (by decide +kernel) rfl
theorem ll_Op_134 : Cond.methodLink "RowWalks$Optimum" 134 ⟨"RowWalks$Columns", "strayAt", "([III)I"⟩ ∈ TB := inT5 147 (by decide +kernel) rfl
theorem ll_Op_138 : Cond.methodLink "RowWalks$Optimum" 138 ⟨"java/lang/Math", "min", "(II)I"⟩ ∈ TB := inT5 156 (by decide +kernel) rfl
theorem ll_Ps_3 : Cond.methodLink "RowWalks$PlanSearch" 3 Lib.objectInit ∈ TB := inT1 167 (by decide +kernel) rfl
theorem ll_Ps_44 : Cond.methodLink "RowWalks$PlanSearch" 44 arraycopyName ∈ TB := inT5 78 (by decide +kernel) rfl
theorem ll_Ps_55 : Cond.methodLink "RowWalks$PlanSearch" 55 ⟨"RowWalks$PlanSearch", "takeNumbers", "(II)V"⟩ ∈ TB := inT5 79 (by decide +kernel) rfl
theorem ll_Ps_59 : Cond.methodLink "RowWalks$PlanSearch" 59 ⟨"RowWalks$PlanSearch", "choose", "(III)V"⟩ ∈ TB := inT5 88 (by decide +kernel) rfl
theorem ll_Ps_63 : Cond.methodLink "RowWalks$PlanSearch" 63 ⟨"RowWalks$Columns", "numberOf", "(II)I"⟩ ∈ TB := inT5 83 (by decide +kernel) rfl
theorem ll_Ps_67 : Cond.methodLink "RowWalks$PlanSearch" 67 ⟨"java/lang/Math", "min", "(II)I"⟩ ∈ TB := inT5 84 (by decide +kernel) rfl
theorem ll_Ps_72 : Cond.methodLink "RowWalks$PlanSearch" 72 ⟨"java/lang/Math", "max", "(II)I"⟩ ∈ TB := inT5 87 (by decide +kernel) rfl
theorem ll_Ps_75 : Cond.methodLink "RowWalks$PlanSearch" 75 ⟨"RowWalks$PlanSearch", "take", "(I)V"⟩ ∈ TB := inT5 92 (by decide +kernel) rfl
theorem ll_Ps_79 : Cond.methodLink "RowWalks$PlanSearch" 79 ⟨"RowWalks$PlanSearch", "isOutOfReach", "(II)Z"⟩ ∈ TB := inT5 96 (by decide +kernel) rfl
theorem ll_Ps_83 : Cond.methodLink "RowWalks$PlanSearch" 83 ⟨"RowWalks$PlanSearch", "share", "(III)V"⟩ ∈ TB := inT5 100 (by decide +kernel) rfl
theorem ll_Ps_86 : Cond.methodLink "RowWalks$PlanSearch" 86 ⟨"RowWalks$PlanSearch", "shiftRest", "(II)V"⟩ ∈ TB := inT5 104 (by decide +kernel) rfl
theorem ll_Ps_89 : Cond.methodLink "RowWalks$PlanSearch" 89 ⟨"RowWalks$Columns", "gainOf", "(I)I"⟩ ∈ TB := inT5 108 (by decide +kernel) rfl
theorem ll_Rd_3 : Cond.methodLink "RowWalks$Reader" 3 Lib.objectInit ∈ TB := inT1 99 (by decide +kernel) rfl
theorem ll_Rd_11 : Cond.methodLink "RowWalks$Reader" 11 ⟨"RowWalks$Columns", "<init>", "()V"⟩ ∈ TB := inT1 101 (by decide +kernel) rfl
theorem ll_Rd_33 : Cond.methodLink "RowWalks$Reader" 33 ⟨"RowWalks$Columns", "clear", "()V"⟩ ∈ TB := inT3 93 (by decide +kernel) rfl
theorem ll_Rd_46 : Cond.methodLink "RowWalks$Reader" 46 ⟨"RowWalks$Tape", "rewind", "()V"⟩ ∈ TB := inT3 100 (by decide +kernel) rfl
theorem ll_Rd_54 : Cond.methodLink "RowWalks$Reader" 54 ⟨"RowWalks$Reader", "readLine", "(I)Z"⟩ ∈ TB := inT3 124 (by decide +kernel) rfl
theorem ll_Rd_63 : Cond.methodLink "RowWalks$Reader" 63 ⟨"RowWalks$Tape", "isWord", "(Ljava/lang/String;)Z"⟩ ∈ TB := inT3 129 (by decide +kernel) rfl
theorem ll_Rd_67 : Cond.methodLink "RowWalks$Reader" 67 ⟨"RowWalks$Reader", "readRows", "()Z"⟩ ∈ TB := inT3 181 (by decide +kernel) rfl
theorem ll_Rd_71 : Cond.methodLink "RowWalks$Reader" 71 ⟨"RowWalks$Reader", "fail", "(I)Z"⟩ ∈ TB := inT3 190 (by decide +kernel) rfl
theorem ll_Rd_79 : Cond.methodLink "RowWalks$Reader" 79 ⟨"RowWalks$Reader", "readColumn", "()Z"⟩ ∈ TB := inT3 203 (by decide +kernel) rfl
theorem ll_Rd_84 : Cond.methodLink "RowWalks$Reader" 84 ⟨"RowWalks$Reader", "readNeed", "()Z"⟩ ∈ TB := inT3 230 (by decide +kernel) rfl
theorem ll_Rd_89 : Cond.methodLink "RowWalks$Reader" 89 ⟨"RowWalks$Reader", "readSteps", "()Z"⟩ ∈ TB := inT3 234 (by decide +kernel) rfl
theorem ll_Rd_92 : Cond.methodLink "RowWalks$Reader" 92 ⟨"RowWalks$Tape", "advance", "()V"⟩ ∈ TB := inT3 185 (by decide +kernel) rfl
theorem ll_Rd_95 : Cond.methodLink "RowWalks$Reader" 95 ⟨"RowWalks$Reader", "isNumber", "(II)Z"⟩ ∈ TB := inT3 186 (by decide +kernel) rfl
theorem ll_Rd_99 : Cond.methodLink "RowWalks$Reader" 99 ⟨"RowWalks$Tape", "value", "()I"⟩ ∈ TB := inT3 194 (by decide +kernel) rfl
theorem ll_Rd_105 : Cond.methodLink "RowWalks$Reader" 105 ⟨"RowWalks$Reader", "endLine", "()Z"⟩ ∈ TB := inT3 198 (by decide +kernel) rfl
theorem ll_Rd_108 : Cond.methodLink "RowWalks$Reader" 108 ⟨"RowWalks$Columns", "put", "(II)V"⟩ ∈ TB := inT3 226 (by decide +kernel) rfl
theorem ll_Rd_112 : Cond.methodLink "RowWalks$Reader" 112 ⟨"RowWalks$Reader", "readSigned", "(II)Z"⟩ ∈ TB := inT3 222 (by decide +kernel) rfl
theorem ll_Rd_115 : Cond.methodLink "RowWalks$Reader" 115 ⟨"RowWalks$Reader", "isNewName", "()Z"⟩ ∈ TB := inT3 207 (by decide +kernel) rfl
theorem ll_Rd_123 : Cond.methodLink "RowWalks$Reader" 123 ⟨"RowWalks$Reader", "isReserved", "()Z"⟩ ∈ TB := inT3 211 (by decide +kernel) rfl
theorem ll_Rd_126 : Cond.methodLink "RowWalks$Reader" 126 ⟨"RowWalks$Tape", "isSameAs", "(II)Z"⟩ ∈ TB := inT3 218 (by decide +kernel) rfl
theorem ll_St_3 : Cond.methodLink "RowWalks$Strip" 3 Lib.objectInit ∈ TB := inT1 209 (by decide +kernel) rfl
theorem ll_St_59 : Cond.methodLink "RowWalks$Strip" 59 ⟨"RowWalks$Strip", "makeRoom", "()V"⟩ ∈ TB := inT4 225 (by decide +kernel) rfl
theorem ll_St_62 : Cond.methodLink "RowWalks$Strip" 62 ⟨"RowWalks$Strip", "setBounds", "(II)V"⟩ ∈ TB := inT4 229 (by decide +kernel) rfl
theorem ll_St_66 : Cond.methodLink "RowWalks$Strip" 66 ⟨"RowWalks$Strip", "start", "()I"⟩ ∈ TB := inT4 239 (by decide +kernel) rfl
theorem ll_St_73 : Cond.methodLink "RowWalks$Strip" 73 ⟨"RowWalks$Strip", "spread", "(II)I"⟩ ∈ TB := inT5 8 (by decide +kernel) rfl
theorem ll_St_77 : Cond.methodLink "RowWalks$Strip" 77 ⟨"RowWalks$Strip", "clear", "(II)V"⟩ ∈ TB := inT5 35 (by decide +kernel) rfl
theorem ll_St_80 : Cond.methodLink "RowWalks$Strip" 80 ⟨"RowWalks$Strip", "readEnd", "(I)V"⟩ ∈ TB := inT5 39 (by decide +kernel) rfl
theorem ll_St_90 : Cond.methodLink "RowWalks$Strip" 90 ⟨"RowWalks$Columns", "hasRow", "(I)Z"⟩ ∈ TB := inT4 233 (by decide +kernel) rfl
theorem ll_St_94 : Cond.methodLink "RowWalks$Strip" 94 ⟨"RowWalks$Columns", "needOf", "(I)I"⟩ ∈ TB := inT4 234 (by decide +kernel) rfl
theorem ll_St_98 : Cond.methodLink "RowWalks$Strip" 98 ⟨"java/lang/Math", "max", "(II)I"⟩ ∈ TB := inT4 235 (by decide +kernel) rfl
theorem ll_St_103 : Cond.methodLink "RowWalks$Strip" 103 ⟨"java/lang/Math", "floorDiv", "(II)I"⟩ ∈ TB := inT4 236 (by decide +kernel) rfl
theorem ll_St_106 : Cond.methodLink "RowWalks$Strip" 106 ⟨"java/util/Arrays", "fill", "([II)V"⟩ ∈ TB := inT5 3 (by decide +kernel) rfl
theorem ll_St_112 : Cond.methodLink "RowWalks$Strip" 112 ⟨"RowWalks$Strip", "cellOf", "(I)I"⟩ ∈ TB := inT5 4 (by decide +kernel) rfl
theorem ll_St_115 : Cond.methodLink "RowWalks$Strip" 115 ⟨"RowWalks$Strip", "layer", "(I)I"⟩ ∈ TB := inT5 12 (by decide +kernel) rfl
theorem ll_St_118 : Cond.methodLink "RowWalks$Strip" 118 ⟨"RowWalks$Strip", "leave", "(III)I"⟩ ∈ TB := inT5 15 (by decide +kernel) rfl
theorem ll_St_125 : Cond.methodLink "RowWalks$Strip" 125 ⟨"RowWalks$Columns", "numberOf", "(II)I"⟩ ∈ TB := inT5 19 (by decide +kernel) rfl
theorem ll_St_128 : Cond.methodLink "RowWalks$Strip" 128 ⟨"RowWalks$Strip", "reach", "(IIII)Z"⟩ ∈ TB := inT5 20 (by decide +kernel) rfl
theorem ll_St_132 : Cond.methodLink "RowWalks$Strip" 132 ⟨"RowWalks$Columns", "gainOf", "(I)I"⟩ ∈ TB := inT5 24 (by decide +kernel) rfl
theorem ll_St_135 : Cond.methodLink "RowWalks$Strip" 135 ⟨"RowWalks$Strip", "choiceAt", "(II)I"⟩ ∈ TB := inT5 25 (by decide +kernel) rfl
theorem ll_St_138 : Cond.methodLink "RowWalks$Strip" 138 ⟨"RowWalks$Strip", "choose", "(III)V"⟩ ∈ TB := inT5 29 (by decide +kernel) rfl
theorem ll_St_153 : Cond.methodLink "RowWalks$Strip" 153 ⟨"RowWalks$Strip", "atNeed", "()V"⟩ ∈ TB := inT5 43 (by decide +kernel) rfl
theorem ll_St_156 : Cond.methodLink "RowWalks$Strip" 156 ⟨"RowWalks$Columns", "hasColumn", "(I)Z"⟩ ∈ TB := inT5 64 (by decide +kernel) rfl
theorem ll_St_159 : Cond.methodLink "RowWalks$Strip" 159 ⟨"RowWalks$Columns", "addTo", "([III)V"⟩ ∈ TB := inT5 65 (by decide +kernel) rfl
theorem ll_Tp_3 : Cond.methodLink "RowWalks$Tape" 3 Lib.objectInit ∈ TB := inT1 35 (by decide +kernel) rfl
theorem ll_Tp_22 : Cond.methodLink "RowWalks$Tape" 22 ⟨"RowWalks$Tape", "advance", "()V"⟩ ∈ TB := inT3 104 (by decide +kernel) rfl
theorem ll_Tp_31 : Cond.methodLink "RowWalks$Tape" 31 ⟨"RowWalks$Tape", "isLetter", "(I)Z"⟩ ∈ TB := inT3 108 (by decide +kernel) rfl
theorem ll_Tp_35 : Cond.methodLink "RowWalks$Tape" 35 ⟨"RowWalks$Tape", "takeWord", "()V"⟩ ∈ TB := inT3 112 (by decide +kernel) rfl
theorem ll_Tp_38 : Cond.methodLink "RowWalks$Tape" 38 ⟨"RowWalks$Tape", "isDigit", "(I)Z"⟩ ∈ TB := inT3 116 (by decide +kernel) rfl
theorem ll_Tp_41 : Cond.methodLink "RowWalks$Tape" 41 ⟨"RowWalks$Tape", "takeDigits", "()V"⟩ ∈ TB := inT3 120 (by decide +kernel) rfl
theorem ll_Tp_44 : Cond.methodLink "RowWalks$Tape" 44 ⟨"java/lang/String", "length", "()I"⟩ ∈ TB := inT3 133 (by decide +kernel) rfl
theorem ll_Tp_49 : Cond.methodLink "RowWalks$Tape" 49 ⟨"java/lang/String", "charAt", "(I)C"⟩ ∈ TB := inT3 143 (by decide +kernel) rfl
theorem ll_L_9 : Cond.methodLink "RowWalksLaw" 9 ⟨"RowWalks", "<init>", "()V"⟩ ∈ TB := inT1 24 (by decide +kernel) rfl
theorem ll_L_12 : Cond.methodLink "RowWalksLaw" 12 ⟨"RowWalksModel", "<init>", "()V"⟩ ∈ TB := inT6 169 (by decide +kernel) rfl
theorem ll_L_13 : Cond.methodLink "RowWalksLaw" 13 ⟨"RowWalks", "feed", "(IIIII)I"⟩ ∈ TB := inT3 73 (by decide +kernel) rfl
theorem ll_L_17 : Cond.methodLink "RowWalksLaw" 17 ⟨"RowWalksModel", "feed", "(IIIII)I"⟩ ∈ TB := inT7 181 (by decide +kernel) rfl
theorem ll_L_18 : Cond.methodLink "RowWalksLaw" 18 ⟨"RowWalks", "end", "(I)I"⟩ ∈ TB := inT3 81 (by decide +kernel) rfl
theorem ll_L_22 : Cond.methodLink "RowWalksLaw" 22 ⟨"RowWalksModel", "end", "(I)I"⟩ ∈ TB := inT7 189 (by decide +kernel) rfl
theorem ll_L_23 : Cond.methodLink "RowWalksLaw" 23 ⟨"RowWalks", "program", "()I"⟩ ∈ TB := inT3 85 (by decide +kernel) rfl
theorem ll_L_27 : Cond.methodLink "RowWalksLaw" 27 ⟨"RowWalksModel", "program", "()I"⟩ ∈ TB := inT7 196 (by decide +kernel) rfl
theorem ll_L_28 : Cond.methodLink "RowWalksLaw" 28 ⟨"RowWalks", "fault", "(I)I"⟩ ∈ TB := inT4 14 (by decide +kernel) rfl
theorem ll_L_31 : Cond.methodLink "RowWalksLaw" 31 ⟨"RowWalksModel", "fault", "(I)I"⟩ ∈ TB := inT8 19 (by decide +kernel) rfl
theorem ll_L_32 : Cond.methodLink "RowWalksLaw" 32 ⟨"RowWalks", "number", "(II)I"⟩ ∈ TB := inT4 18 (by decide +kernel) rfl
theorem ll_L_36 : Cond.methodLink "RowWalksLaw" 36 ⟨"RowWalksModel", "number", "(II)I"⟩ ∈ TB := inT8 23 (by decide +kernel) rfl
theorem ll_L_37 : Cond.methodLink "RowWalksLaw" 37 ⟨"RowWalks", "gain", "(I)I"⟩ ∈ TB := inT4 35 (by decide +kernel) rfl
theorem ll_L_40 : Cond.methodLink "RowWalksLaw" 40 ⟨"RowWalksModel", "gain", "(I)I"⟩ ∈ TB := inT8 40 (by decide +kernel) rfl
theorem ll_L_41 : Cond.methodLink "RowWalksLaw" 41 ⟨"RowWalks", "need", "(I)I"⟩ ∈ TB := inT4 43 (by decide +kernel) rfl
theorem ll_L_44 : Cond.methodLink "RowWalksLaw" 44 ⟨"RowWalksModel", "need", "(I)I"⟩ ∈ TB := inT8 48 (by decide +kernel) rfl
theorem ll_L_45 : Cond.methodLink "RowWalksLaw" 45 ⟨"RowWalks", "change", "(III)I"⟩ ∈ TB := inT4 51 (by decide +kernel) rfl
theorem ll_L_49 : Cond.methodLink "RowWalksLaw" 49 ⟨"RowWalksModel", "change", "(III)I"⟩ ∈ TB := inT8 68 (by decide +kernel) rfl
theorem ll_L_50 : Cond.methodLink "RowWalksLaw" 50 ⟨"RowWalks", "worth", "(II)I"⟩ ∈ TB := inT4 72 (by decide +kernel) rfl
theorem ll_L_53 : Cond.methodLink "RowWalksLaw" 53 ⟨"RowWalksModel", "worth", "(II)I"⟩ ∈ TB := inT8 80 (by decide +kernel) rfl
theorem ll_L_54 : Cond.methodLink "RowWalksLaw" 54 ⟨"RowWalks", "want", "(II)I"⟩ ∈ TB := inT4 76 (by decide +kernel) rfl
theorem ll_L_57 : Cond.methodLink "RowWalksLaw" 57 ⟨"RowWalksModel", "want", "(II)I"⟩ ∈ TB := inT8 84 (by decide +kernel) rfl
theorem ll_L_58 : Cond.methodLink "RowWalksLaw" 58 ⟨"RowWalks", "allow", "(I)I"⟩ ∈ TB := inT4 80 (by decide +kernel) rfl
theorem ll_L_61 : Cond.methodLink "RowWalksLaw" 61 ⟨"RowWalksModel", "allow", "(I)I"⟩ ∈ TB := inT8 88 (by decide +kernel) rfl
theorem ll_L_62 : Cond.methodLink "RowWalksLaw" 62 ⟨"RowWalks", "hold", "(II)I"⟩ ∈ TB := inT4 84 (by decide +kernel) rfl
theorem ll_L_65 : Cond.methodLink "RowWalksLaw" 65 ⟨"RowWalksModel", "hold", "(II)I"⟩ ∈ TB := inT8 92 (by decide +kernel) rfl
theorem ll_L_66 : Cond.methodLink "RowWalksLaw" 66 ⟨"RowWalks", "better", "(I)I"⟩ ∈ TB := inT4 88 (by decide +kernel) rfl
theorem ll_L_69 : Cond.methodLink "RowWalksLaw" 69 ⟨"RowWalksModel", "better", "(I)I"⟩ ∈ TB := inT9 146 (by decide +kernel) rfl
theorem ll_L_70 : Cond.methodLink "RowWalksLaw" 70 ⟨"RowWalks", "undo", "()Z"⟩ ∈ TB := inT4 159 (by decide +kernel) rfl
theorem ll_L_74 : Cond.methodLink "RowWalksLaw" 74 ⟨"RowWalksModel", "undo", "()Z"⟩ ∈ TB := inT8 56 (by decide +kernel) rfl
theorem ll_L_75 : Cond.methodLink "RowWalksLaw" 75 ⟨"RowWalks", "redo", "()Z"⟩ ∈ TB := inT4 168 (by decide +kernel) rfl
theorem ll_L_78 : Cond.methodLink "RowWalksLaw" 78 ⟨"RowWalksModel", "redo", "()Z"⟩ ∈ TB := inT8 64 (by decide +kernel) rfl
theorem ll_L_79 : Cond.methodLink "RowWalksLaw" 79 ⟨"RowWalks", "held", "(I)I"⟩ ∈ TB := inT4 176 (by decide +kernel) rfl
theorem ll_L_82 : Cond.methodLink "RowWalksLaw" 82 ⟨"RowWalksModel", "held", "(I)I"⟩ ∈ TB := inT8 96 (by decide +kernel) rfl
theorem ll_L_83 : Cond.methodLink "RowWalksLaw" 83 ⟨"RowWalks", "holding", "(I)I"⟩ ∈ TB := inT4 181 (by decide +kernel) rfl
theorem ll_L_86 : Cond.methodLink "RowWalksLaw" 86 ⟨"RowWalksModel", "holding", "(I)I"⟩ ∈ TB := inT8 100 (by decide +kernel) rfl
theorem ll_L_87 : Cond.methodLink "RowWalksLaw" 87 ⟨"RowWalks", "exchange", "(II)I"⟩ ∈ TB := inT4 206 (by decide +kernel) rfl
theorem ll_L_90 : Cond.methodLink "RowWalksLaw" 90 ⟨"RowWalksModel", "exchange", "(II)I"⟩ ∈ TB := inT9 122 (by decide +kernel) rfl
theorem ll_L_91 : Cond.methodLink "RowWalksLaw" 91 ⟨"RowWalks", "strip", "(III)I"⟩ ∈ TB := inT4 211 (by decide +kernel) rfl
theorem ll_L_94 : Cond.methodLink "RowWalksLaw" 94 ⟨"RowWalksModel", "strip", "(III)I"⟩ ∈ TB := inT8 217 (by decide +kernel) rfl
theorem ll_L_95 : Cond.methodLink "RowWalksLaw" 95 ⟨"RowWalks", "walks", "(II)J"⟩ ∈ TB := inT5 47 (by decide +kernel) rfl
theorem ll_L_99 : Cond.methodLink "RowWalksLaw" 99 ⟨"RowWalksModel", "walks", "(II)J"⟩ ∈ TB := inT9 23 (by decide +kernel) rfl
theorem ll_L_100 : Cond.methodLink "RowWalksLaw" 100 ⟨"RowWalks", "best", "(II)I"⟩ ∈ TB := inT5 52 (by decide +kernel) rfl
theorem ll_L_103 : Cond.methodLink "RowWalksLaw" 103 ⟨"RowWalksModel", "best", "(II)I"⟩ ∈ TB := inT9 28 (by decide +kernel) rfl
theorem ll_L_104 : Cond.methodLink "RowWalksLaw" 104 ⟨"RowWalks", "step", "(III)I"⟩ ∈ TB := inT5 56 (by decide +kernel) rfl
theorem ll_L_107 : Cond.methodLink "RowWalksLaw" 107 ⟨"RowWalksModel", "step", "(III)I"⟩ ∈ TB := inT9 32 (by decide +kernel) rfl
theorem ll_L_108 : Cond.methodLink "RowWalksLaw" 108 ⟨"RowWalks", "narrow", "(I)I"⟩ ∈ TB := inT5 66 (by decide +kernel) rfl
theorem ll_L_111 : Cond.methodLink "RowWalksLaw" 111 ⟨"RowWalksModel", "narrow", "(I)I"⟩ ∈ TB := inT9 40 (by decide +kernel) rfl
theorem ll_L_112 : Cond.methodLink "RowWalksLaw" 112 ⟨"RowWalks", "fewest", "()I"⟩ ∈ TB := inT5 109 (by decide +kernel) rfl
theorem ll_L_115 : Cond.methodLink "RowWalksLaw" 115 ⟨"RowWalksModel", "fewest", "()I"⟩ ∈ TB := inT8 150 (by decide +kernel) rfl
theorem ll_L_116 : Cond.methodLink "RowWalksLaw" 116 ⟨"RowWalks", "optimum", "(I)I"⟩ ∈ TB := inT5 113 (by decide +kernel) rfl
theorem ll_L_119 : Cond.methodLink "RowWalksLaw" 119 ⟨"RowWalksModel", "optimum", "(I)I"⟩ ∈ TB := inT8 154 (by decide +kernel) rfl
theorem ll_L_120 : Cond.methodLink "RowWalksLaw" 120 ⟨"RowWalks", "plan", "(I)I"⟩ ∈ TB := inT5 166 (by decide +kernel) rfl
theorem ll_L_123 : Cond.methodLink "RowWalksLaw" 123 ⟨"RowWalksModel", "plan", "(I)I"⟩ ∈ TB := inT8 166 (by decide +kernel) rfl
theorem ll_L_124 : Cond.methodLink "RowWalksLaw" 124 ⟨"RowWalks", "plans", "(I)I"⟩ ∈ TB := inT5 174 (by decide +kernel) rfl
theorem ll_L_127 : Cond.methodLink "RowWalksLaw" 127 ⟨"RowWalksModel", "plans", "(I)I"⟩ ∈ TB := inT8 123 (by decide +kernel) rfl
theorem ll_L_128 : Cond.methodLink "RowWalksLaw" 128 ⟨"RowWalks", "order", "(I)I"⟩ ∈ TB := inT5 179 (by decide +kernel) rfl
theorem ll_L_131 : Cond.methodLink "RowWalksLaw" 131 ⟨"RowWalksModel", "order", "(I)I"⟩ ∈ TB := inT8 170 (by decide +kernel) rfl
theorem ll_L_132 : Cond.methodLink "RowWalksLaw" 132 ⟨"RowWalks", "strays", "()I"⟩ ∈ TB := inT5 187 (by decide +kernel) rfl
theorem ll_L_135 : Cond.methodLink "RowWalksLaw" 135 ⟨"RowWalksModel", "strays", "()I"⟩ ∈ TB := inT8 197 (by decide +kernel) rfl
theorem ll_L_136 : Cond.methodLink "RowWalksLaw" 136 ⟨"RowWalks", "sorted", "()I"⟩ ∈ TB := inT5 191 (by decide +kernel) rfl
theorem ll_L_139 : Cond.methodLink "RowWalksLaw" 139 ⟨"RowWalksModel", "sorted", "()I"⟩ ∈ TB := inT8 201 (by decide +kernel) rfl
theorem ll_L_140 : Cond.methodLink "RowWalksLaw" 140 ⟨"RowWalks", "doubled", "(III)I"⟩ ∈ TB := inT5 195 (by decide +kernel) rfl
theorem ll_L_143 : Cond.methodLink "RowWalksLaw" 143 ⟨"RowWalksModel", "doubled", "(III)I"⟩ ∈ TB := inT9 44 (by decide +kernel) rfl
theorem ll_L_144 : Cond.methodLink "RowWalksLaw" 144 ⟨"RowWalks", "relaxed", "(I)I"⟩ ∈ TB := inT5 228 (by decide +kernel) rfl
theorem ll_L_147 : Cond.methodLink "RowWalksLaw" 147 ⟨"RowWalksModel", "relaxed", "(I)I"⟩ ∈ TB := inT9 102 (by decide +kernel) rfl
theorem ll_L_148 : Cond.methodLink "RowWalksLaw" 148 ⟨"RowWalks", "fraction", "(II)I"⟩ ∈ TB := inT6 42 (by decide +kernel) rfl
theorem ll_L_151 : Cond.methodLink "RowWalksLaw" 151 ⟨"RowWalksModel", "fraction", "(II)I"⟩ ∈ TB := inT9 114 (by decide +kernel) rfl
theorem ll_L_152 : Cond.methodLink "RowWalksLaw" 152 ⟨"RowWalks", "apart", "(I)I"⟩ ∈ TB := inT6 54 (by decide +kernel) rfl
theorem ll_L_155 : Cond.methodLink "RowWalksLaw" 155 ⟨"RowWalksModel", "apart", "(I)I"⟩ ∈ TB := inT9 118 (by decide +kernel) rfl
theorem ll_L_156 : Cond.methodLink "RowWalksLaw" 156 ⟨"RowWalks", "corners", "()I"⟩ ∈ TB := inT6 58 (by decide +kernel) rfl
theorem ll_L_159 : Cond.methodLink "RowWalksLaw" 159 ⟨"RowWalksModel", "corners", "()I"⟩ ∈ TB := inT9 64 (by decide +kernel) rfl
theorem ll_L_160 : Cond.methodLink "RowWalksLaw" 160 ⟨"RowWalks", "drawn", "(III)I"⟩ ∈ TB := inT6 62 (by decide +kernel) rfl
theorem ll_L_163 : Cond.methodLink "RowWalksLaw" 163 ⟨"RowWalksModel", "drawn", "(III)I"⟩ ∈ TB := inT9 150 (by decide +kernel) rfl
theorem ll_L_164 : Cond.methodLink "RowWalksLaw" 164 ⟨"RowWalks", "chance", "(II)I"⟩ ∈ TB := inT6 81 (by decide +kernel) rfl
theorem ll_L_167 : Cond.methodLink "RowWalksLaw" 167 ⟨"RowWalksModel", "chance", "(II)I"⟩ ∈ TB := inT9 158 (by decide +kernel) rfl
theorem ll_L_168 : Cond.methodLink "RowWalksLaw" 168 ⟨"RowWalks", "seen", "(IIIIZ)I"⟩ ∈ TB := inT6 85 (by decide +kernel) rfl
theorem ll_L_172 : Cond.methodLink "RowWalksLaw" 172 ⟨"RowWalksModel", "seen", "(IIIIZ)I"⟩ ∈ TB := inT9 162 (by decide +kernel) rfl
theorem ll_L_173 : Cond.methodLink "RowWalksLaw" 173 ⟨"RowWalks", "untell", "(I)Z"⟩ ∈ TB := inT6 100 (by decide +kernel) rfl
theorem ll_L_177 : Cond.methodLink "RowWalksLaw" 177 ⟨"RowWalksModel", "untell", "(I)Z"⟩ ∈ TB := inT9 169 (by decide +kernel) rfl
theorem ll_L_178 : Cond.methodLink "RowWalksLaw" 178 ⟨"RowWalks", "later", "(I)I"⟩ ∈ TB := inT6 108 (by decide +kernel) rfl
theorem ll_L_181 : Cond.methodLink "RowWalksLaw" 181 ⟨"RowWalksModel", "later", "(I)I"⟩ ∈ TB := inT9 173 (by decide +kernel) rfl
theorem ll_L_182 : Cond.methodLink "RowWalksLaw" 182 ⟨"RowWalks", "fits", "(I)I"⟩ ∈ TB := inT6 113 (by decide +kernel) rfl
theorem ll_L_185 : Cond.methodLink "RowWalksLaw" 185 ⟨"RowWalksModel", "fits", "(I)I"⟩ ∈ TB := inT9 178 (by decide +kernel) rfl
theorem ll_L_186 : Cond.methodLink "RowWalksLaw" 186 ⟨"RowWalks", "fit", "(II)I"⟩ ∈ TB := inT6 126 (by decide +kernel) rfl
theorem ll_L_189 : Cond.methodLink "RowWalksLaw" 189 ⟨"RowWalksModel", "fit", "(II)I"⟩ ∈ TB := inT9 206 (by decide +kernel) rfl
theorem ll_L_190 : Cond.methodLink "RowWalksLaw" 190 ⟨"RowWalks", "ask", "(III)I"⟩ ∈ TB := inT6 130 (by decide +kernel) rfl
theorem ll_L_193 : Cond.methodLink "RowWalksLaw" 193 ⟨"RowWalksModel", "ask", "(III)I"⟩ ∈ TB := inT9 210 (by decide +kernel) rfl
theorem ll_L_194 : Cond.methodLink "RowWalksLaw" 194 ⟨"RowWalks", "image", "(I)I"⟩ ∈ TB := inT6 150 (by decide +kernel) rfl
theorem ll_L_197 : Cond.methodLink "RowWalksLaw" 197 ⟨"RowWalksModel", "image", "(I)I"⟩ ∈ TB := inT9 218 (by decide +kernel) rfl
theorem ll_L_198 : Cond.methodLink "RowWalksLaw" 198 ⟨"RowWalks", "back", "(I)I"⟩ ∈ TB := inT6 154 (by decide +kernel) rfl
theorem ll_L_201 : Cond.methodLink "RowWalksLaw" 201 ⟨"RowWalksModel", "back", "(I)I"⟩ ∈ TB := inT9 222 (by decide +kernel) rfl
theorem ll_L_202 : Cond.methodLink "RowWalksLaw" 202 ⟨"RowWalks", "about", "(I)I"⟩ ∈ TB := inT6 158 (by decide +kernel) rfl
theorem ll_L_205 : Cond.methodLink "RowWalksLaw" 205 ⟨"RowWalksModel", "about", "(I)I"⟩ ∈ TB := inT9 226 (by decide +kernel) rfl
theorem ll_M_1 : Cond.methodLink "RowWalksModel" 1 Lib.objectInit ∈ TB := inT6 172 (by decide +kernel) rfl
theorem ll_M_135 : Cond.methodLink "RowWalksModel" 135 ⟨"RowWalksModel", "begins", "()V"⟩ ∈ TB := inT6 175 (by decide +kernel) rfl
theorem ll_M_138 : Cond.methodLink "RowWalksModel" 138 ⟨"RowWalksModel", "takesOver", "()V"⟩ ∈ TB := inT6 179 (by decide +kernel) rfl
theorem ll_M_144 : Cond.methodLink "RowWalksModel" 144 ⟨"RowWalksModel", "four", "(I)V"⟩ ∈ TB := inT7 185 (by decide +kernel) rfl
theorem ll_M_148 : Cond.methodLink "RowWalksModel" 148 ⟨"RowWalksModel", "isIn", "(III)Z"⟩ ∈ TB := inT7 193 (by decide +kernel) rfl
theorem ll_M_158 : Cond.methodLink "RowWalksModel" 158 ⟨"RowWalksModel", "here", "(I)I"⟩ ∈ TB := inT7 204 (by decide +kernel) rfl
theorem ll_M_175 : Cond.methodLink "RowWalksModel" 175 ⟨"RowWalksModel", "isLetter", "(I)Z"⟩ ∈ TB := inT7 208 (by decide +kernel) rfl
theorem ll_M_179 : Cond.methodLink "RowWalksModel" 179 ⟨"RowWalksModel", "isDigit", "(I)Z"⟩ ∈ TB := inT7 211 (by decide +kernel) rfl
theorem ll_M_185 : Cond.methodLink "RowWalksModel" 185 ⟨"RowWalksModel", "wrong", "(I)V"⟩ ∈ TB := inT7 231 (by decide +kernel) rfl
theorem ll_M_188 : Cond.methodLink "RowWalksModel" 188 ⟨"RowWalksModel", "isGood", "()Z"⟩ ∈ TB := inT7 214 (by decide +kernel) rfl
theorem ll_M_192 : Cond.methodLink "RowWalksModel" 192 ⟨"RowWalksModel", "goOn", "()V"⟩ ∈ TB := inT7 200 (by decide +kernel) rfl
theorem ll_M_195 : Cond.methodLink "RowWalksModel" 195 ⟨"RowWalksModel", "numberIn", "(II)I"⟩ ∈ TB := inT7 235 (by decide +kernel) rfl
theorem ll_M_225 : Cond.methodLink "RowWalksModel" 225 ⟨"RowWalksModel", "signed", "(I)I"⟩ ∈ TB := inT8 7 (by decide +kernel) rfl
theorem ll_M_228 : Cond.methodLink "RowWalksModel" 228 ⟨"RowWalksModel", "isWord", "(J)Z"⟩ ∈ TB := inT7 223 (by decide +kernel) rfl
theorem ll_M_232 : Cond.methodLink "RowWalksModel" 232 ⟨"RowWalksModel", "rowsLine", "()V"⟩ ∈ TB := inT7 227 (by decide +kernel) rfl
theorem ll_M_235 : Cond.methodLink "RowWalksModel" 235 ⟨"RowWalksModel", "columnLine", "()V"⟩ ∈ TB := inT8 0 (by decide +kernel) rfl
theorem ll_M_238 : Cond.methodLink "RowWalksModel" 238 ⟨"RowWalksModel", "needLine", "()V"⟩ ∈ TB := inT8 11 (by decide +kernel) rfl
theorem ll_M_241 : Cond.methodLink "RowWalksModel" 241 ⟨"RowWalksModel", "stepsLine", "()V"⟩ ∈ TB := inT8 15 (by decide +kernel) rfl
theorem ll_M_262 : Cond.methodLink "RowWalksModel" 262 ⟨"RowWalksModel", "line", "()V"⟩ ∈ TB := inT7 218 (by decide +kernel) rfl
theorem ll_M_268 : Cond.methodLink "RowWalksModel" 268 ⟨"RowWalksModel", "isColumn", "(I)Z"⟩ ∈ TB := inT8 27 (by decide +kernel) rfl
theorem ll_M_271 : Cond.methodLink "RowWalksModel" 271 ⟨"RowWalksModel", "isRow", "(I)Z"⟩ ∈ TB := inT8 31 (by decide +kernel) rfl
theorem ll_M_274 : Cond.methodLink "RowWalksModel" 274 ⟨"RowWalksModel", "numberOf", "(II)I"⟩ ∈ TB := inT8 35 (by decide +kernel) rfl
theorem ll_M_278 : Cond.methodLink "RowWalksModel" 278 ⟨"RowWalksModel", "gainOf", "(I)I"⟩ ∈ TB := inT8 44 (by decide +kernel) rfl
theorem ll_M_281 : Cond.methodLink "RowWalksModel" 281 ⟨"RowWalksModel", "needOf", "(I)I"⟩ ∈ TB := inT8 52 (by decide +kernel) rfl
theorem ll_M_284 : Cond.methodLink "RowWalksModel" 284 ⟨"RowWalksModel", "exchanges", "(I)V"⟩ ∈ TB := inT8 60 (by decide +kernel) rfl
theorem ll_M_287 : Cond.methodLink "RowWalksModel" 287 ⟨"RowWalksModel", "act", "()V"⟩ ∈ TB := inT8 76 (by decide +kernel) rfl
theorem ll_M_290 : Cond.methodLink "RowWalksModel" 290 ⟨"RowWalksModel", "becomes", "(II)I"⟩ ∈ TB := inT8 72 (by decide +kernel) rfl
theorem ll_M_293 : Cond.methodLink "RowWalksModel" 293 ⟨"RowWalksModel", "heldSum", "(I)I"⟩ ∈ TB := inT8 104 (by decide +kernel) rfl
theorem ll_M_296 : Cond.methodLink "RowWalksModel" 296 ⟨"RowWalksModel", "plus", "(I)I"⟩ ∈ TB := inT8 120 (by decide +kernel) rfl
theorem ll_M_299 : Cond.methodLink "RowWalksModel" 299 ⟨"RowWalksModel", "heldGain", "()I"⟩ ∈ TB := inT8 108 (by decide +kernel) rfl
theorem ll_M_303 : Cond.methodLink "RowWalksModel" 303 ⟨"RowWalksModel", "heldSteps", "()I"⟩ ∈ TB := inT8 112 (by decide +kernel) rfl
theorem ll_M_306 : Cond.methodLink "RowWalksModel" 306 ⟨"RowWalksModel", "heldOff", "()I"⟩ ∈ TB := inT8 116 (by decide +kernel) rfl
theorem ll_M_309 : Cond.methodLink "RowWalksModel" 309 ⟨"RowWalksModel", "planSum", "(I)I"⟩ ∈ TB := inT8 139 (by decide +kernel) rfl
theorem ll_M_312 : Cond.methodLink "RowWalksModel" 312 ⟨"RowWalksModel", "firstPlan", "(I)Z"⟩ ∈ TB := inT8 131 (by decide +kernel) rfl
theorem ll_M_315 : Cond.methodLink "RowWalksModel" 315 ⟨"RowWalksModel", "doesLead", "()Z"⟩ ∈ TB := inT8 135 (by decide +kernel) rfl
theorem ll_M_318 : Cond.methodLink "RowWalksModel" 318 ⟨"RowWalksModel", "truth", "(Z)I"⟩ ∈ TB := inT8 143 (by decide +kernel) rfl
theorem ll_M_322 : Cond.methodLink "RowWalksModel" 322 ⟨"RowWalksModel", "nextPlan", "()Z"⟩ ∈ TB := inT8 146 (by decide +kernel) rfl
theorem ll_M_325 : Cond.methodLink "RowWalksModel" 325 ⟨"RowWalksModel", "plansOf", "(I)I"⟩ ∈ TB := inT8 127 (by decide +kernel) rfl
theorem ll_M_331 : Cond.methodLink "RowWalksModel" 331 ⟨"RowWalksModel", "planGain", "()I"⟩ ∈ TB := inT8 162 (by decide +kernel) rfl
theorem ll_M_337 : Cond.methodLink "RowWalksModel" 337 ⟨"RowWalksModel", "laysOptimum", "()Z"⟩ ∈ TB := inT8 158 (by decide +kernel) rfl
theorem ll_M_340 : Cond.methodLink "RowWalksModel" 340 ⟨"RowWalksModel", "partOf", "(II)I"⟩ ∈ TB := inT8 179 (by decide +kernel) rfl
theorem ll_M_343 : Cond.methodLink "RowWalksModel" 343 ⟨"RowWalksModel", "greater", "(II)I"⟩ ∈ TB := inT8 194 (by decide +kernel) rfl
theorem ll_M_347 : Cond.methodLink "RowWalksModel" 347 ⟨"RowWalksModel", "lesser", "(II)I"⟩ ∈ TB := inT8 183 (by decide +kernel) rfl
theorem ll_M_350 : Cond.methodLink "RowWalksModel" 350 ⟨"RowWalksModel", "stepsIn", "(I)I"⟩ ∈ TB := inT8 186 (by decide +kernel) rfl
theorem ll_M_353 : Cond.methodLink "RowWalksModel" 353 ⟨"RowWalksModel", "strayOf", "(III)I"⟩ ∈ TB := inT8 190 (by decide +kernel) rfl
theorem ll_M_357 : Cond.methodLink "RowWalksModel" 357 ⟨"RowWalksModel", "laysOrder", "()V"⟩ ∈ TB := inT8 174 (by decide +kernel) rfl
theorem ll_M_360 : Cond.methodLink "RowWalksModel" 360 ⟨"RowWalksModel", "noSums", "()V"⟩ ∈ TB := inT8 205 (by decide +kernel) rfl
theorem ll_M_363 : Cond.methodLink "RowWalksModel" 363 ⟨"RowWalksModel", "adds", "(I)V"⟩ ∈ TB := inT8 209 (by decide +kernel) rfl
theorem ll_M_366 : Cond.methodLink "RowWalksModel" 366 ⟨"RowWalksModel", "strayNow", "(II)I"⟩ ∈ TB := inT8 213 (by decide +kernel) rfl
theorem ll_M_371 : Cond.methodLink "RowWalksModel" 371 ⟨"RowWalksModel", "keyNow", "()I"⟩ ∈ TB := inT8 236 (by decide +kernel) rfl
theorem ll_M_374 : Cond.methodLink "RowWalksModel" 374 ⟨"RowWalksModel", "slotOf", "(II)I"⟩ ∈ TB := inT9 0 (by decide +kernel) rfl
theorem ll_M_380 : Cond.methodLink "RowWalksModel" 380 ⟨"RowWalksModel", "comes", "(I)V"⟩ ∈ TB := inT8 232 (by decide +kernel) rfl
theorem ll_M_383 : Cond.methodLink "RowWalksModel" 383 ⟨"RowWalksModel", "unpacks", "(I)V"⟩ ∈ TB := inT9 6 (by decide +kernel) rfl
theorem ll_M_386 : Cond.methodLink "RowWalksModel" 386 ⟨"RowWalksModel", "isNeeded", "()Z"⟩ ∈ TB := inT9 14 (by decide +kernel) rfl
theorem ll_M_390 : Cond.methodLink "RowWalksModel" 390 ⟨"RowWalksModel", "behind", "(III)I"⟩ ∈ TB := inT9 19 (by decide +kernel) rfl
theorem ll_M_399 : Cond.methodLink "RowWalksModel" 399 ⟨"RowWalksModel", "laysLayers", "(II)V"⟩ ∈ TB := inT8 228 (by decide +kernel) rfl
theorem ll_M_403 : Cond.methodLink "RowWalksModel" 403 ⟨"RowWalksModel", "laysWays", "(I)V"⟩ ∈ TB := inT9 10 (by decide +kernel) rfl
theorem ll_M_406 : Cond.methodLink "RowWalksModel" 406 ⟨"RowWalksModel", "isStrip", "(II)Z"⟩ ∈ TB := inT8 221 (by decide +kernel) rfl
theorem ll_M_410 : Cond.methodLink "RowWalksModel" 410 ⟨"RowWalksModel", "laysStrip", "(II)V"⟩ ∈ TB := inT8 224 (by decide +kernel) rfl
theorem ll_M_415 : Cond.methodLink "RowWalksModel" 415 ⟨"RowWalksModel", "isBestStep", "(III)Z"⟩ ∈ TB := inT9 36 (by decide +kernel) rfl
theorem ll_M_418 : Cond.methodLink "RowWalksModel" 418 ⟨"RowWalksModel", "isNear", "(II)Z"⟩ ∈ TB := inT9 56 (by decide +kernel) rfl
theorem ll_M_424 : Cond.methodLink "RowWalksModel" 424 ⟨"RowWalksModel", "comesTo", "(IIII)V"⟩ ∈ TB := inT9 52 (by decide +kernel) rfl
theorem ll_M_428 : Cond.methodLink "RowWalksModel" 428 ⟨"RowWalksModel", "laysDoubled", "(II)V"⟩ ∈ TB := inT9 48 (by decide +kernel) rfl
theorem ll_M_431 : Cond.methodLink "RowWalksModel" 431 ⟨"RowWalksModel", "isOfLevel", "(I)Z"⟩ ∈ TB := inT9 60 (by decide +kernel) rfl
theorem ll_M_440 : Cond.methodLink "RowWalksModel" 440 ⟨"RowWalksModel", "common", "(JJ)J"⟩ ∈ TB := inT9 91 (by decide +kernel) rfl
theorem ll_M_444 : Cond.methodLink "RowWalksModel" 444 ⟨"RowWalksModel", "swapsRows", "(II)V"⟩ ∈ TB := inT9 83 (by decide +kernel) rfl
theorem ll_M_447 : Cond.methodLink "RowWalksModel" 447 ⟨"RowWalksModel", "clears", "(III)V"⟩ ∈ TB := inT9 87 (by decide +kernel) rfl
theorem ll_M_451 : Cond.methodLink "RowWalksModel" 451 ⟨"RowWalksModel", "pluses", "(JJ)V"⟩ ∈ TB := inT9 98 (by decide +kernel) rfl
theorem ll_M_455 : Cond.methodLink "RowWalksModel" 455 ⟨"RowWalksModel", "many", "(I)I"⟩ ∈ TB := inT9 76 (by decide +kernel) rfl
theorem ll_M_458 : Cond.methodLink "RowWalksModel" 458 ⟨"RowWalksModel", "comesBy", "(I)Z"⟩ ∈ TB := inT9 79 (by decide +kernel) rfl
theorem ll_M_461 : Cond.methodLink "RowWalksModel" 461 ⟨"RowWalksModel", "gains", "()V"⟩ ∈ TB := inT9 94 (by decide +kernel) rfl
theorem ll_M_467 : Cond.methodLink "RowWalksModel" 467 ⟨"RowWalksModel", "aimsAtNeed", "()V"⟩ ∈ TB := inT9 72 (by decide +kernel) rfl
theorem ll_M_479 : Cond.methodLink "RowWalksModel" 479 ⟨"RowWalksModel", "laysCorners", "()Z"⟩ ∈ TB := inT9 68 (by decide +kernel) rfl
theorem ll_M_482 : Cond.methodLink "RowWalksModel" 482 ⟨"RowWalksModel", "goesRound", "()Z"⟩ ∈ TB := inT9 110 (by decide +kernel) rfl
theorem ll_M_488 : Cond.methodLink "RowWalksModel" 488 ⟨"RowWalksModel", "laysRelaxed", "()Z"⟩ ∈ TB := inT9 106 (by decide +kernel) rfl
theorem ll_M_500 : Cond.methodLink "RowWalksModel" 500 ⟨"RowWalksModel", "canCome", "()Z"⟩ ∈ TB := inT9 138 (by decide +kernel) rfl
theorem ll_M_503 : Cond.methodLink "RowWalksModel" 503 ⟨"RowWalksModel", "keepsExchange", "(III)V"⟩ ∈ TB := inT9 142 (by decide +kernel) rfl
theorem ll_M_506 : Cond.methodLink "RowWalksModel" 506 ⟨"RowWalksModel", "canGo", "()Z"⟩ ∈ TB := inT9 130 (by decide +kernel) rfl
theorem ll_M_509 : Cond.methodLink "RowWalksModel" 509 ⟨"RowWalksModel", "comesFor", "(III)V"⟩ ∈ TB := inT9 134 (by decide +kernel) rfl
theorem ll_M_512 : Cond.methodLink "RowWalksModel" 512 ⟨"RowWalksModel", "laysExchange", "(I)Z"⟩ ∈ TB := inT9 126 (by decide +kernel) rfl
theorem ll_M_521 : Cond.methodLink "RowWalksModel" 521 ⟨"RowWalksModel", "draws", "(II)V"⟩ ∈ TB := inT9 154 (by decide +kernel) rfl
theorem ll_M_524 : Cond.methodLink "RowWalksModel" 524 ⟨"RowWalksModel", "isFar", "(I)Z"⟩ ∈ TB := inT9 166 (by decide +kernel) rfl
theorem ll_M_531 : Cond.methodLink "RowWalksModel" 531 ⟨"RowWalksModel", "toldSum", "(II)I"⟩ ∈ TB := inT9 202 (by decide +kernel) rfl
theorem ll_M_534 : Cond.methodLink "RowWalksModel" 534 ⟨"RowWalksModel", "isSum", "(II)Z"⟩ ∈ TB := inT9 198 (by decide +kernel) rfl
theorem ll_M_537 : Cond.methodLink "RowWalksModel" 537 ⟨"RowWalksModel", "isTurnable", "(I)Z"⟩ ∈ TB := inT9 186 (by decide +kernel) rfl
theorem ll_M_540 : Cond.methodLink "RowWalksModel" 540 ⟨"RowWalksModel", "doesCount", "(II)Z"⟩ ∈ TB := inT9 190 (by decide +kernel) rfl
theorem ll_M_543 : Cond.methodLink "RowWalksModel" 543 ⟨"RowWalksModel", "hasSum", "(II)Z"⟩ ∈ TB := inT9 194 (by decide +kernel) rfl
theorem ll_M_546 : Cond.methodLink "RowWalksModel" 546 ⟨"RowWalksModel", "laysFits", "(I)I"⟩ ∈ TB := inT9 182 (by decide +kernel) rfl
theorem ll_M_549 : Cond.methodLink "RowWalksModel" 549 ⟨"RowWalksModel", "laysFirst", "(I)V"⟩ ∈ TB := inT9 214 (by decide +kernel) rfl
theorem ll_M_552 : Cond.methodLink "RowWalksModel" 552 ⟨"RowWalksModel", "greatest", "()I"⟩ ∈ TB := inT9 230 (by decide +kernel) rfl
theorem ll_JS_335 : Cond.methodLink "java/lang/String" 335 ⟨"java/lang/String", "coder", "()B"⟩ ∈ TB := inT3 137 (by decide +kernel) rfl
theorem ll_JS_492 : Cond.methodLink "java/lang/String" 492 ⟨"java/lang/String", "isLatin1", "()Z"⟩ ∈ TB := inT3 147 (by decide +kernel) rfl
theorem ll_JS_495 : Cond.methodLink "java/lang/String" 495 ⟨"java/lang/StringLatin1", "charAt", "([BI)C"⟩ ∈ TB := inT3 151 (by decide +kernel) rfl
theorem ll_JS_498 : Cond.methodLink "java/lang/String" 498 ⟨"java/lang/StringUTF16", "charAt", "([BI)C"⟩ ∈ TB := inT3 162 (by decide +kernel) rfl
theorem ll_JS_1059 : Cond.methodLink "java/lang/String" 1059 ⟨"jdk/internal/util/Preconditions", "checkIndex", "(IILjava/util/function/BiFunction;)I"⟩ ∈ TB := inT3 159 (by decide +kernel) rfl
theorem ll_JL_9 : Cond.methodLink "java/lang/StringLatin1" 9 ⟨"java/lang/String", "checkIndex", "(II)V"⟩ ∈ TB := inT3 154 (by decide +kernel) rfl
theorem lk_X_7 : Cond.classLink "RowWalks" 7 "RowWalks$Tape" ∈ TB := inT1 30 (by decide +kernel) rfl
theorem lk_X_16 : Cond.classLink "RowWalks" 16 "RowWalks$Columns" ∈ TB := inT1 57 (by decide +kernel) rfl
theorem lk_X_26 : Cond.classLink "RowWalks" 26 "RowWalks$Reader" ∈ TB := inT1 94 (by decide +kernel) rfl
theorem lk_X_43 : Cond.classLink "RowWalks" 43 "RowWalks$Acts" ∈ TB := inT1 131 (by decide +kernel) rfl
theorem lk_X_50 : Cond.classLink "RowWalks" 50 "RowWalks$PlanSearch" ∈ TB := inT1 162 (by decide +kernel) rfl
theorem lk_X_57 : Cond.classLink "RowWalks" 57 "RowWalks$Strip" ∈ TB := inT1 204 (by decide +kernel) rfl
theorem lk_X_66 : Cond.classLink "RowWalks" 66 "RowWalks$Optimum" ∈ TB := inT2 26 (by decide +kernel) rfl
theorem lk_X_75 : Cond.classLink "RowWalks" 75 "RowWalks$Corners" ∈ TB := inT2 82 (by decide +kernel) rfl
theorem lk_X_82 : Cond.classLink "RowWalks" 82 "RowWalks$Exchange" ∈ TB := inT2 133 (by decide +kernel) rfl
theorem lk_X_89 : Cond.classLink "RowWalks" 89 "RowWalks$Doubling" ∈ TB := inT2 182 (by decide +kernel) rfl
theorem lk_X_96 : Cond.classLink "RowWalks" 96 "RowWalks$Knowledge" ∈ TB := inT2 226 (by decide +kernel) rfl
theorem lk_Rd_9 : Cond.classLink "RowWalks$Reader" 9 "RowWalks$Columns" ∈ TB := inT1 100 (by decide +kernel) rfl
theorem lk_L_7 : Cond.classLink "RowWalksLaw" 7 "RowWalks" ∈ TB := inT1 22 (by decide +kernel) rfl
theorem lk_L_10 : Cond.classLink "RowWalksLaw" 10 "RowWalksModel" ∈ TB := inT6 167 (by decide +kernel) rfl
theorem lc_X_145 : Cond.constant "RowWalks" 145 (-1000001) ∈ TB := inT4 30 (by decide +kernel) rfl
theorem lc_X_264 : Cond.constant "RowWalks" 264 (1000000) ∈ TB := inT5 178 (by decide +kernel) rfl
theorem lc_X_365 : Cond.constant "RowWalks" 365 (100000) ∈ TB := inT6 112 (by decide +kernel) rfl
theorem lc_Op_73 : Cond.constant "RowWalks$Optimum" 73 (1000000) ∈ TB := inT5 130 (by decide +kernel) rfl
theorem lc_M_51 : Cond.constant "RowWalksModel" 51 (126000) ∈ TB := inT6 173 (by decide +kernel) rfl
theorem lc_M_61 : Cond.constant "RowWalksModel" 61 (262144) ∈ TB := inT6 174 (by decide +kernel) rfl
theorem lc_M_277 : Cond.constant "RowWalksModel" 277 (-1000001) ∈ TB := inT8 39 (by decide +kernel) rfl
theorem lc_M_346 : Cond.constant "RowWalksModel" 346 (1000000000) ∈ TB := inT8 178 (by decide +kernel) rfl
theorem lc_M_369 : Cond.constant "RowWalksModel" 369 (40503) ∈ TB := inT9 4 (by decide +kernel) rfl
theorem lc_M_370 : Cond.constant "RowWalksModel" 370 (262143) ∈ TB := inT9 5 (by decide +kernel) rfl
theorem lc_M_389 : Cond.constant "RowWalksModel" 389 (-1000000000) ∈ TB := inT9 18 (by decide +kernel) rfl
theorem lc_M_530 : Cond.constant "RowWalksModel" 530 (100000) ∈ TB := inT9 177 (by decide +kernel) rfl
theorem lc_JI_265 : Cond.constant "java/lang/Integer" 265 (1431655765) ∈ TB := inT6 3 (by decide +kernel) rfl
theorem lc_JI_266 : Cond.constant "java/lang/Integer" 266 (858993459) ∈ TB := inT6 4 (by decide +kernel) rfl
theorem lc_JI_267 : Cond.constant "java/lang/Integer" 267 (252645135) ∈ TB := inT6 5 (by decide +kernel) rfl
theorem lc_X_239 : Cond.constantLong "RowWalks" 239 (-1) ∈ TB := inT5 51 (by decide +kernel) rfl
theorem lc_Cr_108 : Cond.constantLong "RowWalks$Corners" 108 (-1) ∈ TB := inT6 20 (by decide +kernel) rfl
theorem lc_St_142 : Cond.constantLong "RowWalks$Strip" 142 (15) ∈ TB := inT5 33 (by decide +kernel) rfl
theorem lc_St_144 : Cond.constantLong "RowWalks$Strip" 144 (-1) ∈ TB := inT5 34 (by decide +kernel) rfl
theorem lc_M_215 : Cond.constantLong "RowWalksModel" 215 (1919907699) ∈ TB := inT7 222 (by decide +kernel) rfl
theorem lc_M_217 : Cond.constantLong "RowWalksModel" 217 (109330212154734) ∈ TB := inT7 239 (by decide +kernel) rfl
theorem lc_M_219 : Cond.constantLong "RowWalksModel" 219 (1734437230) ∈ TB := inT8 4 (by decide +kernel) rfl
theorem lc_M_221 : Cond.constantLong "RowWalksModel" 221 (1852138852) ∈ TB := inT8 5 (by decide +kernel) rfl
theorem lc_M_223 : Cond.constantLong "RowWalksModel" 223 (495874044019) ∈ TB := inT8 6 (by decide +kernel) rfl
theorem lc_M_413 : Cond.constantLong "RowWalksModel" 413 (-1) ∈ TB := inT9 27 (by decide +kernel) rfl
def m_Ac_init : MI := (⟨"RowWalks$Acts", "<init>", "()V"⟩, prog_2_method_1_code, 1, none)
theorem pl_Ac_init : plainFor m_Ac_init.1 = true := plainFor_of_name (by decide +kernel)
theorem mk_Ac_init : mOK m_Ac_init 0 := ⟨inT1 135 rfl rfl, inT1 5 (by decide +kernel) rfl, by decide +kernel, by decide +kernel, nle rfl⟩
theorem im_Ac_init : Cond.instanceMethod m_Ac_init.1 ∈ TB := inT1 134 (by decide +kernel) rfl
def m_Ac_forget : MI := (⟨"RowWalks$Acts", "forget", "()V"⟩, prog_2_method_2_code, 1, none)
theorem pl_Ac_forget : plainFor m_Ac_forget.1 = true := plainFor_of_name (by decide +kernel)
theorem mk_Ac_forget : mOK m_Ac_forget 0 := ⟨inT4 8 rfl rfl, inT1 5 (by decide +kernel) rfl, by decide +kernel, by decide +kernel, nle rfl⟩
theorem im_Ac_forget : Cond.instanceMethod m_Ac_forget.1 ∈ TB := inT4 6 (by decide +kernel) rfl
theorem se_Ac_forget : Cond.selects m_Ac_forget.1.cls m_Ac_forget.1 m_Ac_forget.1 ∈ TB := inT4 7 (by decide +kernel) rfl
def m_Ac_latest : MI := (⟨"RowWalks$Acts", "latest", "()I"⟩, prog_2_method_3_code, 1, (some .int))
theorem pl_Ac_latest : plainFor m_Ac_latest.1 = true := plainFor_of_name (by decide +kernel)
theorem mk_Ac_latest : mOK m_Ac_latest 0 := ⟨inT4 71 rfl rfl, inT1 5 (by decide +kernel) rfl, by decide +kernel, by decide +kernel, nle rfl⟩
theorem im_Ac_latest : Cond.instanceMethod m_Ac_latest.1 ∈ TB := inT4 69 (by decide +kernel) rfl
theorem se_Ac_latest : Cond.selects m_Ac_latest.1.cls m_Ac_latest.1 m_Ac_latest.1 ∈ TB := inT4 70 (by decide +kernel) rfl
def m_Ac_keep : MI := (⟨"RowWalks$Acts", "keep", "(III)V"⟩, prog_2_method_4_code, 5, none)
theorem pl_Ac_keep : plainFor m_Ac_keep.1 = true := plainFor_of_name (by decide +kernel)
theorem mk_Ac_keep : mOK m_Ac_keep 3 := ⟨inT4 67 rfl rfl, inT1 5 (by decide +kernel) rfl, by decide +kernel, by decide +kernel, nle rfl⟩
theorem im_Ac_keep : Cond.instanceMethod m_Ac_keep.1 ∈ TB := inT4 65 (by decide +kernel) rfl
theorem se_Ac_keep : Cond.selects m_Ac_keep.1.cls m_Ac_keep.1 m_Ac_keep.1 ∈ TB := inT4 66 (by decide +kernel) rfl
def m_Ac_keepShifts : MI := (⟨"RowWalks$Acts", "keepShifts", "(LRowWalks$Exchange;)V"⟩, prog_2_method_5_code, 4, none)
theorem pl_Ac_keepShifts : plainFor m_Ac_keepShifts.1 = true := plainFor_of_name (by decide +kernel)
theorem mk_Ac_keepShifts : mOK m_Ac_keepShifts 1 := ⟨inT4 140 rfl rfl, inT1 5 (by decide +kernel) rfl, by decide +kernel, by decide +kernel, nle rfl⟩
theorem im_Ac_keepShifts : Cond.instanceMethod m_Ac_keepShifts.1 ∈ TB := inT4 138 (by decide +kernel) rfl
theorem se_Ac_keepShifts : Cond.selects m_Ac_keepShifts.1.cls m_Ac_keepShifts.1 m_Ac_keepShifts.1 ∈ TB := inT4 139 (by decide +kernel) rfl
def m_Ac_apply : MI := (⟨"RowWalks$Acts", "apply", "(LRowWalks$Columns;II)V"⟩, prog_2_method_6_code, 6, none)
theorem pl_Ac_apply : plainFor m_Ac_apply.1 = true := plainFor_of_name (by decide +kernel)
theorem mk_Ac_apply : mOK m_Ac_apply 3 := ⟨inT4 150 rfl rfl, inT1 5 (by decide +kernel) rfl, by decide +kernel, by decide +kernel, nle rfl⟩
theorem im_Ac_apply : Cond.instanceMethod m_Ac_apply.1 ∈ TB := inT4 148 (by decide +kernel) rfl
theorem se_Ac_apply : Cond.selects m_Ac_apply.1.cls m_Ac_apply.1 m_Ac_apply.1 ∈ TB := inT4 149 (by decide +kernel) rfl
def m_Ac_takeBack : MI := (⟨"RowWalks$Acts", "takeBack", "(LRowWalks$Columns;)Z"⟩, prog_2_method_7_code, 2, (some .boolean))
theorem pl_Ac_takeBack : plainFor m_Ac_takeBack.1 = true := plainFor_of_name (by decide +kernel)
theorem mk_Ac_takeBack : mOK m_Ac_takeBack 1 := ⟨inT4 166 rfl rfl, inT1 5 (by decide +kernel) rfl, by decide +kernel, by decide +kernel, nle rfl⟩
theorem im_Ac_takeBack : Cond.instanceMethod m_Ac_takeBack.1 ∈ TB := inT4 164 (by decide +kernel) rfl
theorem se_Ac_takeBack : Cond.selects m_Ac_takeBack.1.cls m_Ac_takeBack.1 m_Ac_takeBack.1 ∈ TB := inT4 165 (by decide +kernel) rfl
def m_Ac_doAgain : MI := (⟨"RowWalks$Acts", "doAgain", "(LRowWalks$Columns;)Z"⟩, prog_2_method_8_code, 2, (some .boolean))
theorem pl_Ac_doAgain : plainFor m_Ac_doAgain.1 = true := plainFor_of_name (by decide +kernel)
theorem mk_Ac_doAgain : mOK m_Ac_doAgain 1 := ⟨inT4 175 rfl rfl, inT1 5 (by decide +kernel) rfl, by decide +kernel, by decide +kernel, nle rfl⟩
theorem im_Ac_doAgain : Cond.instanceMethod m_Ac_doAgain.1 ∈ TB := inT4 173 (by decide +kernel) rfl
theorem se_Ac_doAgain : Cond.selects m_Ac_doAgain.1.cls m_Ac_doAgain.1 m_Ac_doAgain.1 ∈ TB := inT4 174 (by decide +kernel) rfl
def m_Co_init : MI := (⟨"RowWalks$Columns", "<init>", "()V"⟩, prog_3_method_1_code, 1, none)
theorem pl_Co_init : plainFor m_Co_init.1 = true := plainFor_of_name (by decide +kernel)
theorem mk_Co_init : mOK m_Co_init 0 := ⟨inT1 61 rfl rfl, inT1 3 (by decide +kernel) rfl, by decide +kernel, by decide +kernel, nle rfl⟩
theorem im_Co_init : Cond.instanceMethod m_Co_init.1 ∈ TB := inT1 60 (by decide +kernel) rfl
def m_Co_clear : MI := (⟨"RowWalks$Columns", "clear", "()V"⟩, prog_3_method_2_code, 1, none)
theorem pl_Co_clear : plainFor m_Co_clear.1 = true := plainFor_of_name (by decide +kernel)
theorem mk_Co_clear : mOK m_Co_clear 0 := ⟨inT3 96 rfl rfl, inT1 3 (by decide +kernel) rfl, by decide +kernel, by decide +kernel, nle rfl⟩
theorem im_Co_clear : Cond.instanceMethod m_Co_clear.1 ∈ TB := inT3 94 (by decide +kernel) rfl
theorem se_Co_clear : Cond.selects m_Co_clear.1.cls m_Co_clear.1 m_Co_clear.1 ∈ TB := inT3 95 (by decide +kernel) rfl
def m_Co_copyFrom : MI := (⟨"RowWalks$Columns", "copyFrom", "(LRowWalks$Columns;)V"⟩, prog_3_method_3_code, 2, none)
theorem pl_Co_copyFrom : plainFor m_Co_copyFrom.1 = true := plainFor_of_name (by decide +kernel)
theorem mk_Co_copyFrom : mOK m_Co_copyFrom 1 := ⟨inT4 1 rfl rfl, inT1 3 (by decide +kernel) rfl, by decide +kernel, by decide +kernel, nle rfl⟩
theorem im_Co_copyFrom : Cond.instanceMethod m_Co_copyFrom.1 ∈ TB := inT3 239 (by decide +kernel) rfl
theorem se_Co_copyFrom : Cond.selects m_Co_copyFrom.1.cls m_Co_copyFrom.1 m_Co_copyFrom.1 ∈ TB := inT4 0 (by decide +kernel) rfl
def m_Co_get : MI := (⟨"RowWalks$Columns", "get", "(I)I"⟩, prog_3_method_4_code, 2, (some .int))
theorem pl_Co_get : plainFor m_Co_get.1 = true := plainFor_of_name (by decide +kernel)
theorem mk_Co_get : mOK m_Co_get 1 := ⟨inT4 62 rfl rfl, inT1 3 (by decide +kernel) rfl, by decide +kernel, by decide +kernel, nle rfl⟩
theorem im_Co_get : Cond.instanceMethod m_Co_get.1 ∈ TB := inT4 60 (by decide +kernel) rfl
theorem se_Co_get : Cond.selects m_Co_get.1.cls m_Co_get.1 m_Co_get.1 ∈ TB := inT4 61 (by decide +kernel) rfl
def m_Co_put : MI := (⟨"RowWalks$Columns", "put", "(II)V"⟩, prog_3_method_5_code, 3, none)
theorem pl_Co_put : plainFor m_Co_put.1 = true := plainFor_of_name (by decide +kernel)
theorem mk_Co_put : mOK m_Co_put 2 := ⟨inT3 229 rfl rfl, inT1 3 (by decide +kernel) rfl, by decide +kernel, by decide +kernel, nle rfl⟩
theorem im_Co_put : Cond.instanceMethod m_Co_put.1 ∈ TB := inT3 227 (by decide +kernel) rfl
theorem se_Co_put : Cond.selects m_Co_put.1.cls m_Co_put.1 m_Co_put.1 ∈ TB := inT3 228 (by decide +kernel) rfl
def m_Co_hasColumn : MI := (⟨"RowWalks$Columns", "hasColumn", "(I)Z"⟩, prog_3_method_6_code, 2, (some .boolean))
theorem pl_Co_hasColumn : plainFor m_Co_hasColumn.1 = true := plainFor_of_name (by decide +kernel)
theorem mk_Co_hasColumn : mOK m_Co_hasColumn 1 := ⟨inT4 25 rfl rfl, inT1 3 (by decide +kernel) rfl, by decide +kernel, by decide +kernel, nle rfl⟩
theorem im_Co_hasColumn : Cond.instanceMethod m_Co_hasColumn.1 ∈ TB := inT4 23 (by decide +kernel) rfl
theorem se_Co_hasColumn : Cond.selects m_Co_hasColumn.1.cls m_Co_hasColumn.1 m_Co_hasColumn.1 ∈ TB := inT4 24 (by decide +kernel) rfl
def m_Co_hasRow : MI := (⟨"RowWalks$Columns", "hasRow", "(I)Z"⟩, prog_3_method_7_code, 2, (some .boolean))
theorem pl_Co_hasRow : plainFor m_Co_hasRow.1 = true := plainFor_of_name (by decide +kernel)
theorem mk_Co_hasRow : mOK m_Co_hasRow 1 := ⟨inT4 29 rfl rfl, inT1 3 (by decide +kernel) rfl, by decide +kernel, by decide +kernel, nle rfl⟩
theorem im_Co_hasRow : Cond.instanceMethod m_Co_hasRow.1 ∈ TB := inT4 27 (by decide +kernel) rfl
theorem se_Co_hasRow : Cond.selects m_Co_hasRow.1.cls m_Co_hasRow.1 m_Co_hasRow.1 ∈ TB := inT4 28 (by decide +kernel) rfl
def m_Co_numberOf : MI := (⟨"RowWalks$Columns", "numberOf", "(II)I"⟩, prog_3_method_8_code, 3, (some .int))
theorem pl_Co_numberOf : plainFor m_Co_numberOf.1 = true := plainFor_of_name (by decide +kernel)
theorem mk_Co_numberOf : mOK m_Co_numberOf 2 := ⟨inT4 34 rfl rfl, inT1 3 (by decide +kernel) rfl, by decide +kernel, by decide +kernel, nle rfl⟩
theorem im_Co_numberOf : Cond.instanceMethod m_Co_numberOf.1 ∈ TB := inT4 32 (by decide +kernel) rfl
theorem se_Co_numberOf : Cond.selects m_Co_numberOf.1.cls m_Co_numberOf.1 m_Co_numberOf.1 ∈ TB := inT4 33 (by decide +kernel) rfl
def m_Co_gainOf : MI := (⟨"RowWalks$Columns", "gainOf", "(I)I"⟩, prog_3_method_9_code, 2, (some .int))
theorem pl_Co_gainOf : plainFor m_Co_gainOf.1 = true := plainFor_of_name (by decide +kernel)
theorem mk_Co_gainOf : mOK m_Co_gainOf 1 := ⟨inT4 42 rfl rfl, inT1 3 (by decide +kernel) rfl, by decide +kernel, by decide +kernel, nle rfl⟩
theorem im_Co_gainOf : Cond.instanceMethod m_Co_gainOf.1 ∈ TB := inT4 40 (by decide +kernel) rfl
theorem se_Co_gainOf : Cond.selects m_Co_gainOf.1.cls m_Co_gainOf.1 m_Co_gainOf.1 ∈ TB := inT4 41 (by decide +kernel) rfl
def m_Co_needOf : MI := (⟨"RowWalks$Columns", "needOf", "(I)I"⟩, prog_3_method_10_code, 2, (some .int))
theorem pl_Co_needOf : plainFor m_Co_needOf.1 = true := plainFor_of_name (by decide +kernel)
theorem mk_Co_needOf : mOK m_Co_needOf 1 := ⟨inT4 50 rfl rfl, inT1 3 (by decide +kernel) rfl, by decide +kernel, by decide +kernel, nle rfl⟩
theorem im_Co_needOf : Cond.instanceMethod m_Co_needOf.1 ∈ TB := inT4 48 (by decide +kernel) rfl
theorem se_Co_needOf : Cond.selects m_Co_needOf.1.cls m_Co_needOf.1 m_Co_needOf.1 ∈ TB := inT4 49 (by decide +kernel) rfl
def m_Co_heldOf : MI := (⟨"RowWalks$Columns", "heldOf", "(I)I"⟩, prog_3_method_11_code, 2, (some .int))
theorem pl_Co_heldOf : plainFor m_Co_heldOf.1 = true := plainFor_of_name (by decide +kernel)
theorem mk_Co_heldOf : mOK m_Co_heldOf 1 := ⟨inT4 128 rfl rfl, inT1 3 (by decide +kernel) rfl, by decide +kernel, by decide +kernel, nle rfl⟩
theorem im_Co_heldOf : Cond.instanceMethod m_Co_heldOf.1 ∈ TB := inT4 126 (by decide +kernel) rfl
theorem se_Co_heldOf : Cond.selects m_Co_heldOf.1.cls m_Co_heldOf.1 m_Co_heldOf.1 ∈ TB := inT4 127 (by decide +kernel) rfl
def m_Co_steps : MI := (⟨"RowWalks$Columns", "steps", "()I"⟩, prog_3_method_12_code, 1, (some .int))
theorem pl_Co_steps : plainFor m_Co_steps.1 = true := plainFor_of_name (by decide +kernel)
theorem mk_Co_steps : mOK m_Co_steps 0 := ⟨inT5 128 rfl rfl, inT1 3 (by decide +kernel) rfl, by decide +kernel, by decide +kernel, nle rfl⟩
theorem im_Co_steps : Cond.instanceMethod m_Co_steps.1 ∈ TB := inT5 126 (by decide +kernel) rfl
theorem se_Co_steps : Cond.selects m_Co_steps.1.cls m_Co_steps.1 m_Co_steps.1 ∈ TB := inT5 127 (by decide +kernel) rfl
def m_Co_greatestNumber : MI := (⟨"RowWalks$Columns", "greatestNumber", "()I"⟩, prog_3_method_13_code, 3, (some .int))
theorem pl_Co_greatestNumber : plainFor m_Co_greatestNumber.1 = true := plainFor_of_name (by decide +kernel)
theorem mk_Co_greatestNumber : mOK m_Co_greatestNumber 0 := ⟨inT6 166 rfl rfl, inT1 3 (by decide +kernel) rfl, by decide +kernel, by decide +kernel, nle rfl⟩
theorem im_Co_greatestNumber : Cond.instanceMethod m_Co_greatestNumber.1 ∈ TB := inT6 164 (by decide +kernel) rfl
theorem se_Co_greatestNumber : Cond.selects m_Co_greatestNumber.1.cls m_Co_greatestNumber.1 m_Co_greatestNumber.1 ∈ TB := inT6 165 (by decide +kernel) rfl
def m_Co_isNothing : MI := (⟨"RowWalks$Columns", "isNothing", "(I)Z"⟩, prog_3_method_14_code, 3, (some .boolean))
theorem pl_Co_isNothing : plainFor m_Co_isNothing.1 = true := plainFor_of_name (by decide +kernel)
theorem mk_Co_isNothing : mOK m_Co_isNothing 1 := ⟨inT6 124 rfl rfl, inT1 3 (by decide +kernel) rfl, by decide +kernel, by decide +kernel, nle rfl⟩
theorem im_Co_isNothing : Cond.instanceMethod m_Co_isNothing.1 ∈ TB := inT6 122 (by decide +kernel) rfl
theorem se_Co_isNothing : Cond.selects m_Co_isNothing.1.cls m_Co_isNothing.1 m_Co_isNothing.1 ∈ TB := inT6 123 (by decide +kernel) rfl
def m_Co_addTo : MI := (⟨"RowWalks$Columns", "addTo", "([III)V"⟩, prog_3_method_15_code, 5, none)
theorem pl_Co_addTo : plainFor m_Co_addTo.1 = true := plainFor_of_name (by decide +kernel)
theorem mk_Co_addTo : mOK m_Co_addTo 3 := ⟨inT4 196 rfl rfl, inT1 3 (by decide +kernel) rfl, by decide +kernel, by decide +kernel, nle rfl⟩
theorem im_Co_addTo : Cond.instanceMethod m_Co_addTo.1 ∈ TB := inT4 194 (by decide +kernel) rfl
theorem se_Co_addTo : Cond.selects m_Co_addTo.1.cls m_Co_addTo.1 m_Co_addTo.1 ∈ TB := inT4 195 (by decide +kernel) rfl
def m_Co_strayAt : MI := (⟨"RowWalks$Columns", "strayAt", "([III)I"⟩, prog_3_method_16_code, 6, (some .int))
theorem pl_Co_strayAt : plainFor m_Co_strayAt.1 = true := plainFor_of_name (by decide +kernel)
theorem mk_Co_strayAt : mOK m_Co_strayAt 3 := ⟨inT5 150 rfl rfl, inT1 3 (by decide +kernel) rfl, by decide +kernel, by decide +kernel, nle rfl⟩
theorem im_Co_strayAt : Cond.instanceMethod m_Co_strayAt.1 ∈ TB := inT5 148 (by decide +kernel) rfl
theorem se_Co_strayAt : Cond.selects m_Co_strayAt.1.cls m_Co_strayAt.1 m_Co_strayAt.1 ∈ TB := inT5 149 (by decide +kernel) rfl
def m_Co_farFromNeed : MI := (⟨"RowWalks$Columns", "farFromNeed", "([I)I"⟩, prog_3_method_17_code, 4, (some .int))
theorem pl_Co_farFromNeed : plainFor m_Co_farFromNeed.1 = true := plainFor_of_name (by decide +kernel)
theorem mk_Co_farFromNeed : mOK m_Co_farFromNeed 1 := ⟨inT4 201 rfl rfl, inT1 3 (by decide +kernel) rfl, by decide +kernel, by decide +kernel, nle rfl⟩
theorem im_Co_farFromNeed : Cond.instanceMethod m_Co_farFromNeed.1 ∈ TB := inT4 199 (by decide +kernel) rfl
theorem se_Co_farFromNeed : Cond.selects m_Co_farFromNeed.1.cls m_Co_farFromNeed.1 m_Co_farFromNeed.1 ∈ TB := inT4 200 (by decide +kernel) rfl
def m_Co_heldSums : MI := (⟨"RowWalks$Columns", "heldSums", "([I)V"⟩, prog_3_method_18_code, 3, none)
theorem pl_Co_heldSums : plainFor m_Co_heldSums.1 = true := plainFor_of_name (by decide +kernel)
theorem mk_Co_heldSums : mOK m_Co_heldSums 1 := ⟨inT4 192 rfl rfl, inT1 3 (by decide +kernel) rfl, by decide +kernel, by decide +kernel, nle rfl⟩
theorem im_Co_heldSums : Cond.instanceMethod m_Co_heldSums.1 ∈ TB := inT4 190 (by decide +kernel) rfl
theorem se_Co_heldSums : Cond.selects m_Co_heldSums.1.cls m_Co_heldSums.1 m_Co_heldSums.1 ∈ TB := inT4 191 (by decide +kernel) rfl
def m_Co_heldGain : MI := (⟨"RowWalks$Columns", "heldGain", "()I"⟩, prog_3_method_19_code, 3, (some .int))
theorem pl_Co_heldGain : plainFor m_Co_heldGain.1 = true := plainFor_of_name (by decide +kernel)
theorem mk_Co_heldGain : mOK m_Co_heldGain 0 := ⟨inT4 156 rfl rfl, inT1 3 (by decide +kernel) rfl, by decide +kernel, by decide +kernel, nle rfl⟩
theorem im_Co_heldGain : Cond.instanceMethod m_Co_heldGain.1 ∈ TB := inT4 154 (by decide +kernel) rfl
theorem se_Co_heldGain : Cond.selects m_Co_heldGain.1.cls m_Co_heldGain.1 m_Co_heldGain.1 ∈ TB := inT4 155 (by decide +kernel) rfl
def m_Co_heldSteps : MI := (⟨"RowWalks$Columns", "heldSteps", "()I"⟩, prog_3_method_20_code, 3, (some .int))
theorem pl_Co_heldSteps : plainFor m_Co_heldSteps.1 = true := plainFor_of_name (by decide +kernel)
theorem mk_Co_heldSteps : mOK m_Co_heldSteps 0 := ⟨inT4 188 rfl rfl, inT1 3 (by decide +kernel) rfl, by decide +kernel, by decide +kernel, nle rfl⟩
theorem im_Co_heldSteps : Cond.instanceMethod m_Co_heldSteps.1 ∈ TB := inT4 186 (by decide +kernel) rfl
theorem se_Co_heldSteps : Cond.selects m_Co_heldSteps.1.cls m_Co_heldSteps.1 m_Co_heldSteps.1 ∈ TB := inT4 187 (by decide +kernel) rfl
def m_Cr_init : MI := (⟨"RowWalks$Corners", "<init>", "(LRowWalks$Columns;)V"⟩, prog_4_method_1_code, 2, none)
theorem pl_Cr_init : plainFor m_Cr_init.1 = true := plainFor_of_name (by decide +kernel)
theorem mk_Cr_init : mOK m_Cr_init 1 := ⟨inT2 86 rfl rfl, inT1 9 (by decide +kernel) rfl, by decide +kernel, by decide +kernel, nle rfl⟩
theorem im_Cr_init : Cond.instanceMethod m_Cr_init.1 ∈ TB := inT2 85 (by decide +kernel) rfl
def m_Cr_isThere : MI := (⟨"RowWalks$Corners", "isThere", "()Z"⟩, prog_4_method_2_code, 1, (some .boolean))
theorem pl_Cr_isThere : plainFor m_Cr_isThere.1 = true := plainFor_of_name (by decide +kernel)
theorem mk_Cr_isThere : mOK m_Cr_isThere 0 := ⟨inT6 49 rfl rfl, inT1 9 (by decide +kernel) rfl, by decide +kernel, by decide +kernel, nle rfl⟩
theorem im_Cr_isThere : Cond.instanceMethod m_Cr_isThere.1 ∈ TB := inT6 47 (by decide +kernel) rfl
theorem se_Cr_isThere : Cond.selects m_Cr_isThere.1.cls m_Cr_isThere.1 m_Cr_isThere.1 ∈ TB := inT6 48 (by decide +kernel) rfl
def m_Cr_upperOf : MI := (⟨"RowWalks$Corners", "upperOf", "(I)J"⟩, prog_4_method_3_code, 2, (some .long))
theorem pl_Cr_upperOf : plainFor m_Cr_upperOf.1 = true := plainFor_of_name (by decide +kernel)
theorem mk_Cr_upperOf : mOK m_Cr_upperOf 1 := ⟨inT6 53 rfl rfl, inT1 9 (by decide +kernel) rfl, by decide +kernel, by decide +kernel, nle rfl⟩
theorem im_Cr_upperOf : Cond.instanceMethod m_Cr_upperOf.1 ∈ TB := inT6 51 (by decide +kernel) rfl
theorem se_Cr_upperOf : Cond.selects m_Cr_upperOf.1.cls m_Cr_upperOf.1 m_Cr_upperOf.1 ∈ TB := inT6 52 (by decide +kernel) rfl
def m_Cr_find : MI := (⟨"RowWalks$Corners", "find", "()V"⟩, prog_4_method_4_code, 2, none)
theorem pl_Cr_find : plainFor m_Cr_find.1 = true := plainFor_of_name (by decide +kernel)
theorem mk_Cr_find : mOK m_Cr_find 0 := ⟨inT5 235 rfl rfl, inT1 9 (by decide +kernel) rfl, by decide +kernel, by decide +kernel, nle rfl⟩
theorem im_Cr_find : Cond.instanceMethod m_Cr_find.1 ∈ TB := inT5 233 (by decide +kernel) rfl
theorem se_Cr_find : Cond.selects m_Cr_find.1.cls m_Cr_find.1 m_Cr_find.1 ∈ TB := inT5 234 (by decide +kernel) rfl
def m_Cr_takeIfBetter : MI := (⟨"RowWalks$Corners", "takeIfBetter", "(I)V"⟩, prog_4_method_5_code, 5, none)
theorem pl_Cr_takeIfBetter : plainFor m_Cr_takeIfBetter.1 = true := plainFor_of_name (by decide +kernel)
theorem mk_Cr_takeIfBetter : mOK m_Cr_takeIfBetter 1 := ⟨inT6 24 rfl rfl, inT1 9 (by decide +kernel) rfl, by decide +kernel, by decide +kernel, nle rfl⟩
theorem im_Cr_takeIfBetter : Cond.instanceMethod m_Cr_takeIfBetter.1 ∈ TB := inT6 23 (by decide +kernel) rfl
theorem se_Cr_takeIfBetter : Cond.selects m_Cr_takeIfBetter.1.cls m_Cr_takeIfBetter.1 m_Cr_takeIfBetter.1 ∈ TB := inTB 58 (by decide +kernel) rfl
def m_Cr_solvedGain : MI := (⟨"RowWalks$Corners", "solvedGain", "()J"⟩, prog_4_method_6_code, 4, (some .long))
theorem pl_Cr_solvedGain : plainFor m_Cr_solvedGain.1 = true := plainFor_of_name (by decide +kernel)
theorem mk_Cr_solvedGain : mOK m_Cr_solvedGain 0 := ⟨inT6 28 rfl rfl, inT1 9 (by decide +kernel) rfl, by decide +kernel, by decide +kernel, nle rfl⟩
theorem im_Cr_solvedGain : Cond.instanceMethod m_Cr_solvedGain.1 ∈ TB := inT6 27 (by decide +kernel) rfl
theorem se_Cr_solvedGain : Cond.selects m_Cr_solvedGain.1.cls m_Cr_solvedGain.1 m_Cr_solvedGain.1 ∈ TB := inTB 59 (by decide +kernel) rfl
def m_Cr_solve : MI := (⟨"RowWalks$Corners", "solve", "(II)Z"⟩, prog_4_method_7_code, 4, (some .boolean))
theorem pl_Cr_solve : plainFor m_Cr_solve.1 = true := plainFor_of_name (by decide +kernel)
theorem mk_Cr_solve : mOK m_Cr_solve 2 := ⟨inT5 239 rfl rfl, inT1 9 (by decide +kernel) rfl, by decide +kernel, by decide +kernel, nle rfl⟩
theorem im_Cr_solve : Cond.instanceMethod m_Cr_solve.1 ∈ TB := inT5 238 (by decide +kernel) rfl
theorem se_Cr_solve : Cond.selects m_Cr_solve.1.cls m_Cr_solve.1 m_Cr_solve.1 ∈ TB := inTB 54 (by decide +kernel) rfl
def m_Cr_fill : MI := (⟨"RowWalks$Corners", "fill", "(II)V"⟩, prog_4_method_8_code, 5, none)
theorem pl_Cr_fill : plainFor m_Cr_fill.1 = true := plainFor_of_name (by decide +kernel)
theorem mk_Cr_fill : mOK m_Cr_fill 2 := ⟨inT6 9 rfl rfl, inT1 9 (by decide +kernel) rfl, by decide +kernel, by decide +kernel, nle rfl⟩
theorem im_Cr_fill : Cond.instanceMethod m_Cr_fill.1 ∈ TB := inT6 8 (by decide +kernel) rfl
theorem se_Cr_fill : Cond.selects m_Cr_fill.1.cls m_Cr_fill.1 m_Cr_fill.1 ∈ TB := inTB 55 (by decide +kernel) rfl
def m_Cr_eliminate : MI := (⟨"RowWalks$Corners", "eliminate", "(II)Z"⟩, prog_4_method_9_code, 12, (some .boolean))
theorem pl_Cr_eliminate : plainFor m_Cr_eliminate.1 = true := plainFor_of_name (by decide +kernel)
theorem mk_Cr_eliminate : mOK m_Cr_eliminate 2 := ⟨inT6 15 rfl rfl, inT1 9 (by decide +kernel) rfl, by decide +kernel, by decide +kernel, nle rfl⟩
theorem im_Cr_eliminate : Cond.instanceMethod m_Cr_eliminate.1 ∈ TB := inT6 14 (by decide +kernel) rfl
theorem se_Cr_eliminate : Cond.selects m_Cr_eliminate.1.cls m_Cr_eliminate.1 m_Cr_eliminate.1 ∈ TB := inTB 56 (by decide +kernel) rfl
def m_Cr_isAboveNothing : MI := (⟨"RowWalks$Corners", "isAboveNothing", "()Z"⟩, prog_4_method_10_code, 4, (some .boolean))
theorem pl_Cr_isAboveNothing : plainFor m_Cr_isAboveNothing.1 = true := plainFor_of_name (by decide +kernel)
theorem mk_Cr_isAboveNothing : mOK m_Cr_isAboveNothing 0 := ⟨inT6 19 rfl rfl, inT1 9 (by decide +kernel) rfl, by decide +kernel, by decide +kernel, nle rfl⟩
theorem im_Cr_isAboveNothing : Cond.instanceMethod m_Cr_isAboveNothing.1 ∈ TB := inT6 18 (by decide +kernel) rfl
theorem se_Cr_isAboveNothing : Cond.selects m_Cr_isAboveNothing.1.cls m_Cr_isAboveNothing.1 m_Cr_isAboveNothing.1 ∈ TB := inTB 57 (by decide +kernel) rfl
def m_Db_init : MI := (⟨"RowWalks$Doubling", "<init>", "(LRowWalks$Columns;)V"⟩, prog_5_method_1_code, 2, none)
theorem pl_Db_init : plainFor m_Db_init.1 = true := plainFor_of_name (by decide +kernel)
theorem mk_Db_init : mOK m_Db_init 1 := ⟨inT2 186 rfl rfl, inT1 11 (by decide +kernel) rfl, by decide +kernel, by decide +kernel, nle rfl⟩
theorem im_Db_init : Cond.instanceMethod m_Db_init.1 ∈ TB := inT2 185 (by decide +kernel) rfl
def m_Db_sizeOf : MI := (⟨"RowWalks$Doubling", "sizeOf", "(I)I"⟩, prog_5_method_2_code, 2, (some .int))
theorem pl_Db_sizeOf : plainFor m_Db_sizeOf.1 = true := plainFor_of_name (by decide +kernel)
theorem mk_Db_sizeOf : mOK m_Db_sizeOf 1 := ⟨inT5 227 rfl rfl, inT1 11 (by decide +kernel) rfl, by decide +kernel, by decide +kernel, nle rfl⟩
theorem im_Db_sizeOf : Cond.instanceMethod m_Db_sizeOf.1 ∈ TB := inT5 225 (by decide +kernel) rfl
theorem se_Db_sizeOf : Cond.selects m_Db_sizeOf.1.cls m_Db_sizeOf.1 m_Db_sizeOf.1 ∈ TB := inT5 226 (by decide +kernel) rfl
def m_Db_raise : MI := (⟨"RowWalks$Doubling", "raise", "(II)V"⟩, prog_5_method_3_code, 5, none)
theorem pl_Db_raise : plainFor m_Db_raise.1 = true := plainFor_of_name (by decide +kernel)
theorem mk_Db_raise : mOK m_Db_raise 2 := ⟨inT5 202 rfl rfl, inT1 11 (by decide +kernel) rfl, by decide +kernel, by decide +kernel, nle rfl⟩
theorem im_Db_raise : Cond.instanceMethod m_Db_raise.1 ∈ TB := inT5 200 (by decide +kernel) rfl
theorem se_Db_raise : Cond.selects m_Db_raise.1.cls m_Db_raise.1 m_Db_raise.1 ∈ TB := inT5 201 (by decide +kernel) rfl
def m_Db_beginLevel : MI := (⟨"RowWalks$Doubling", "beginLevel", "(II)V"⟩, prog_5_method_4_code, 6, none)
theorem pl_Db_beginLevel : plainFor m_Db_beginLevel.1 = true := plainFor_of_name (by decide +kernel)
theorem mk_Db_beginLevel : mOK m_Db_beginLevel 2 := ⟨inT5 206 rfl rfl, inT1 11 (by decide +kernel) rfl, by decide +kernel, by decide +kernel, nle rfl⟩
theorem im_Db_beginLevel : Cond.instanceMethod m_Db_beginLevel.1 ∈ TB := inT5 205 (by decide +kernel) rfl
theorem se_Db_beginLevel : Cond.selects m_Db_beginLevel.1.cls m_Db_beginLevel.1 m_Db_beginLevel.1 ∈ TB := inTB 50 (by decide +kernel) rfl
def m_Db_addPairs : MI := (⟨"RowWalks$Doubling", "addPairs", "(II)V"⟩, prog_5_method_5_code, 8, none)
theorem pl_Db_addPairs : plainFor m_Db_addPairs.1 = true := plainFor_of_name (by decide +kernel)
theorem mk_Db_addPairs : mOK m_Db_addPairs 2 := ⟨inT5 223 rfl rfl, inT1 11 (by decide +kernel) rfl, by decide +kernel, by decide +kernel, nle rfl⟩
theorem im_Db_addPairs : Cond.instanceMethod m_Db_addPairs.1 ∈ TB := inT5 222 (by decide +kernel) rfl
theorem se_Db_addPairs : Cond.selects m_Db_addPairs.1.cls m_Db_addPairs.1 m_Db_addPairs.1 ∈ TB := inTB 53 (by decide +kernel) rfl
def m_Db_addSum : MI := (⟨"RowWalks$Doubling", "addSum", "(IIII)V"⟩, prog_5_method_6_code, 7, none)
theorem pl_Db_addSum : plainFor m_Db_addSum.1 = true := plainFor_of_name (by decide +kernel)
theorem mk_Db_addSum : mOK m_Db_addSum 4 := ⟨inT5 214 rfl rfl, inT1 11 (by decide +kernel) rfl, by decide +kernel, by decide +kernel, nle rfl⟩
theorem im_Db_addSum : Cond.instanceMethod m_Db_addSum.1 ∈ TB := inT5 213 (by decide +kernel) rfl
theorem se_Db_addSum : Cond.selects m_Db_addSum.1.cls m_Db_addSum.1 m_Db_addSum.1 ∈ TB := inTB 51 (by decide +kernel) rfl
def m_Db_offsetOf : MI := (⟨"RowWalks$Doubling", "offsetOf", "(III)I"⟩, prog_5_method_7_code, 4, (some .int))
theorem pl_Db_offsetOf : plainFor m_Db_offsetOf.1 = true := plainFor_of_name (by decide +kernel)
theorem mk_Db_offsetOf : mOK m_Db_offsetOf 3 := ⟨inT5 218 rfl rfl, inT1 11 (by decide +kernel) rfl, by decide +kernel, by decide +kernel, nle rfl⟩
theorem im_Db_offsetOf : Cond.instanceMethod m_Db_offsetOf.1 ∈ TB := inT5 217 (by decide +kernel) rfl
theorem se_Db_offsetOf : Cond.selects m_Db_offsetOf.1.cls m_Db_offsetOf.1 m_Db_offsetOf.1 ∈ TB := inTB 52 (by decide +kernel) rfl
def m_Ex_init : MI := (⟨"RowWalks$Exchange", "<init>", "(LRowWalks$Columns;)V"⟩, prog_6_method_1_code, 2, none)
theorem pl_Ex_init : plainFor m_Ex_init.1 = true := plainFor_of_name (by decide +kernel)
theorem mk_Ex_init : mOK m_Ex_init 1 := ⟨inT2 137 rfl rfl, inT1 10 (by decide +kernel) rfl, by decide +kernel, by decide +kernel, nle rfl⟩
theorem im_Ex_init : Cond.instanceMethod m_Ex_init.1 ∈ TB := inT2 136 (by decide +kernel) rfl
def m_Ex_find : MI := (⟨"RowWalks$Exchange", "find", "(I)Z"⟩, prog_6_method_2_code, 2, (some .boolean))
theorem pl_Ex_find : plainFor m_Ex_find.1 = true := plainFor_of_name (by decide +kernel)
theorem mk_Ex_find : mOK m_Ex_find 1 := ⟨inT4 95 rfl rfl, inT1 10 (by decide +kernel) rfl, by decide +kernel, by decide +kernel, nle rfl⟩
theorem im_Ex_find : Cond.instanceMethod m_Ex_find.1 ∈ TB := inT4 93 (by decide +kernel) rfl
theorem se_Ex_find : Cond.selects m_Ex_find.1.cls m_Ex_find.1 m_Ex_find.1 ∈ TB := inT4 94 (by decide +kernel) rfl
def m_Ex_shiftOf : MI := (⟨"RowWalks$Exchange", "shiftOf", "(I)I"⟩, prog_6_method_3_code, 2, (some .int))
theorem pl_Ex_shiftOf : plainFor m_Ex_shiftOf.1 = true := plainFor_of_name (by decide +kernel)
theorem mk_Ex_shiftOf : mOK m_Ex_shiftOf 1 := ⟨inT4 145 rfl rfl, inT1 10 (by decide +kernel) rfl, by decide +kernel, by decide +kernel, nle rfl⟩
theorem im_Ex_shiftOf : Cond.instanceMethod m_Ex_shiftOf.1 ∈ TB := inT4 143 (by decide +kernel) rfl
theorem se_Ex_shiftOf : Cond.selects m_Ex_shiftOf.1.cls m_Ex_shiftOf.1 m_Ex_shiftOf.1 ∈ TB := inT4 144 (by decide +kernel) rfl
def m_Ex_listPlans : MI := (⟨"RowWalks$Exchange", "listPlans", "()V"⟩, prog_6_method_4_code, 4, none)
theorem pl_Ex_listPlans : plainFor m_Ex_listPlans.1 = true := plainFor_of_name (by decide +kernel)
theorem mk_Ex_listPlans : mOK m_Ex_listPlans 0 := ⟨inT4 99 rfl rfl, inT1 10 (by decide +kernel) rfl, by decide +kernel, by decide +kernel, nle rfl⟩
theorem im_Ex_listPlans : Cond.instanceMethod m_Ex_listPlans.1 ∈ TB := inT4 98 (by decide +kernel) rfl
theorem se_Ex_listPlans : Cond.selects m_Ex_listPlans.1.cls m_Ex_listPlans.1 m_Ex_listPlans.1 ∈ TB := inTB 16 (by decide +kernel) rfl
def m_Ex_extend : MI := (⟨"RowWalks$Exchange", "extend", "(II)I"⟩, prog_6_method_5_code, 5, (some .int))
theorem pl_Ex_extend : plainFor m_Ex_extend.1 = true := plainFor_of_name (by decide +kernel)
theorem mk_Ex_extend : mOK m_Ex_extend 2 := ⟨inT4 103 rfl rfl, inT1 10 (by decide +kernel) rfl, by decide +kernel, by decide +kernel, nle rfl⟩
theorem im_Ex_extend : Cond.instanceMethod m_Ex_extend.1 ∈ TB := inT4 102 (by decide +kernel) rfl
theorem se_Ex_extend : Cond.selects m_Ex_extend.1.cls m_Ex_extend.1 m_Ex_extend.1 ∈ TB := inTB 17 (by decide +kernel) rfl
def m_Ex_keyOf : MI := (⟨"RowWalks$Exchange", "keyOf", "(I)I"⟩, prog_6_method_6_code, 2, (some .int))
theorem pl_Ex_keyOf : plainFor m_Ex_keyOf.1 = true := plainFor_of_name (by decide +kernel)
theorem mk_Ex_keyOf : mOK m_Ex_keyOf 1 := ⟨inT4 110 rfl rfl, inT1 10 (by decide +kernel) rfl, by decide +kernel, by decide +kernel, nle rfl⟩
theorem im_Ex_keyOf : Cond.instanceMethod m_Ex_keyOf.1 ∈ TB := inT4 109 (by decide +kernel) rfl
theorem se_Ex_keyOf : Cond.selects m_Ex_keyOf.1.cls m_Ex_keyOf.1 m_Ex_keyOf.1 ∈ TB := inTB 18 (by decide +kernel) rfl
def m_Ex_times : MI := (⟨"RowWalks$Exchange", "times", "(II)I"⟩, prog_6_method_7_code, 5, (some .int))
theorem pl_Ex_times : plainFor m_Ex_times.1 = true := plainFor_of_name (by decide +kernel)
theorem mk_Ex_times : mOK m_Ex_times 2 := ⟨inT4 132 rfl rfl, inT1 10 (by decide +kernel) rfl, by decide +kernel, by decide +kernel, nle rfl⟩
theorem im_Ex_times : Cond.instanceMethod m_Ex_times.1 ∈ TB := inT4 131 (by decide +kernel) rfl
theorem se_Ex_times : Cond.selects m_Ex_times.1.cls m_Ex_times.1 m_Ex_times.1 ∈ TB := inTB 22 (by decide +kernel) rfl
def m_Ex_findBest : MI := (⟨"RowWalks$Exchange", "findBest", "(I)V"⟩, prog_6_method_8_code, 4, none)
theorem pl_Ex_findBest : plainFor m_Ex_findBest.1 = true := plainFor_of_name (by decide +kernel)
theorem mk_Ex_findBest : mOK m_Ex_findBest 1 := ⟨inT4 116 rfl rfl, inT1 10 (by decide +kernel) rfl, by decide +kernel, by decide +kernel, nle rfl⟩
theorem im_Ex_findBest : Cond.instanceMethod m_Ex_findBest.1 ∈ TB := inT4 115 (by decide +kernel) rfl
theorem se_Ex_findBest : Cond.selects m_Ex_findBest.1.cls m_Ex_findBest.1 m_Ex_findBest.1 ∈ TB := inTB 19 (by decide +kernel) rfl
def m_Ex_compareSizes : MI := (⟨"RowWalks$Exchange", "compareSizes", "(II)V"⟩, prog_6_method_9_code, 5, none)
theorem pl_Ex_compareSizes : plainFor m_Ex_compareSizes.1 = true := plainFor_of_name (by decide +kernel)
theorem mk_Ex_compareSizes : mOK m_Ex_compareSizes 2 := ⟨inT4 120 rfl rfl, inT1 10 (by decide +kernel) rfl, by decide +kernel, by decide +kernel, nle rfl⟩
theorem im_Ex_compareSizes : Cond.instanceMethod m_Ex_compareSizes.1 ∈ TB := inT4 119 (by decide +kernel) rfl
theorem se_Ex_compareSizes : Cond.selects m_Ex_compareSizes.1.cls m_Ex_compareSizes.1 m_Ex_compareSizes.1 ∈ TB := inTB 20 (by decide +kernel) rfl
def m_Ex_isHeld : MI := (⟨"RowWalks$Exchange", "isHeld", "(I)Z"⟩, prog_6_method_10_code, 4, (some .boolean))
theorem pl_Ex_isHeld : plainFor m_Ex_isHeld.1 = true := plainFor_of_name (by decide +kernel)
theorem mk_Ex_isHeld : mOK m_Ex_isHeld 1 := ⟨inT4 124 rfl rfl, inT1 10 (by decide +kernel) rfl, by decide +kernel, by decide +kernel, nle rfl⟩
theorem im_Ex_isHeld : Cond.instanceMethod m_Ex_isHeld.1 ∈ TB := inT4 123 (by decide +kernel) rfl
theorem se_Ex_isHeld : Cond.selects m_Ex_isHeld.1.cls m_Ex_isHeld.1 m_Ex_isHeld.1 ∈ TB := inTB 21 (by decide +kernel) rfl
def m_Ex_hasPlace : MI := (⟨"RowWalks$Exchange", "hasPlace", "(II)Z"⟩, prog_6_method_11_code, 6, (some .boolean))
theorem pl_Ex_hasPlace : plainFor m_Ex_hasPlace.1 = true := plainFor_of_name (by decide +kernel)
theorem mk_Ex_hasPlace : mOK m_Ex_hasPlace 2 := ⟨inT4 136 rfl rfl, inT1 10 (by decide +kernel) rfl, by decide +kernel, by decide +kernel, nle rfl⟩
theorem im_Ex_hasPlace : Cond.instanceMethod m_Ex_hasPlace.1 ∈ TB := inT4 135 (by decide +kernel) rfl
theorem se_Ex_hasPlace : Cond.selects m_Ex_hasPlace.1.cls m_Ex_hasPlace.1 m_Ex_hasPlace.1 ∈ TB := inTB 23 (by decide +kernel) rfl
def m_Kn_init : MI := (⟨"RowWalks$Knowledge", "<init>", "(LRowWalks$Columns;LRowWalks$PlanSearch;)V"⟩, prog_7_method_1_code, 3, none)
theorem pl_Kn_init : plainFor m_Kn_init.1 = true := plainFor_of_name (by decide +kernel)
theorem mk_Kn_init : mOK m_Kn_init 2 := ⟨inT2 230 rfl rfl, inT1 12 (by decide +kernel) rfl, by decide +kernel, by decide +kernel, nle rfl⟩
theorem im_Kn_init : Cond.instanceMethod m_Kn_init.1 ∈ TB := inT2 229 (by decide +kernel) rfl
def m_Kn_forget : MI := (⟨"RowWalks$Knowledge", "forget", "()V"⟩, prog_7_method_2_code, 1, none)
theorem pl_Kn_forget : plainFor m_Kn_forget.1 = true := plainFor_of_name (by decide +kernel)
theorem mk_Kn_forget : mOK m_Kn_forget 0 := ⟨inT4 12 rfl rfl, inT1 12 (by decide +kernel) rfl, by decide +kernel, by decide +kernel, nle rfl⟩
theorem im_Kn_forget : Cond.instanceMethod m_Kn_forget.1 ∈ TB := inT4 10 (by decide +kernel) rfl
theorem se_Kn_forget : Cond.selects m_Kn_forget.1.cls m_Kn_forget.1 m_Kn_forget.1 ∈ TB := inT4 11 (by decide +kernel) rfl
def m_Kn_tell : MI := (⟨"RowWalks$Knowledge", "tell", "(I[IZ)I"⟩, prog_7_method_3_code, 6, (some .int))
theorem pl_Kn_tell : plainFor m_Kn_tell.1 = true := plainFor_of_name (by decide +kernel)
theorem mk_Kn_tell : mOK m_Kn_tell 3 := ⟨inT6 98 rfl rfl, inT1 12 (by decide +kernel) rfl, by decide +kernel, by decide +kernel, nle rfl⟩
theorem im_Kn_tell : Cond.instanceMethod m_Kn_tell.1 ∈ TB := inT6 96 (by decide +kernel) rfl
theorem se_Kn_tell : Cond.selects m_Kn_tell.1.cls m_Kn_tell.1 m_Kn_tell.1 ∈ TB := inT6 97 (by decide +kernel) rfl
def m_Kn_takeAway : MI := (⟨"RowWalks$Knowledge", "takeAway", "(I)Z"⟩, prog_7_method_4_code, 2, (some .boolean))
theorem pl_Kn_takeAway : plainFor m_Kn_takeAway.1 = true := plainFor_of_name (by decide +kernel)
theorem mk_Kn_takeAway : mOK m_Kn_takeAway 1 := ⟨inT6 107 rfl rfl, inT1 12 (by decide +kernel) rfl, by decide +kernel, by decide +kernel, nle rfl⟩
theorem im_Kn_takeAway : Cond.instanceMethod m_Kn_takeAway.1 ∈ TB := inT6 105 (by decide +kernel) rfl
theorem se_Kn_takeAway : Cond.selects m_Kn_takeAway.1.cls m_Kn_takeAway.1 m_Kn_takeAway.1 ∈ TB := inT6 106 (by decide +kernel) rfl
def m_Kn_fitting : MI := (⟨"RowWalks$Knowledge", "fitting", "(I)I"⟩, prog_7_method_5_code, 5, (some .int))
theorem pl_Kn_fitting : plainFor m_Kn_fitting.1 = true := plainFor_of_name (by decide +kernel)
theorem mk_Kn_fitting : mOK m_Kn_fitting 1 := ⟨inT6 120 rfl rfl, inT1 12 (by decide +kernel) rfl, by decide +kernel, by decide +kernel, nle rfl⟩
theorem im_Kn_fitting : Cond.instanceMethod m_Kn_fitting.1 ∈ TB := inT6 118 (by decide +kernel) rfl
theorem se_Kn_fitting : Cond.selects m_Kn_fitting.1.cls m_Kn_fitting.1 m_Kn_fitting.1 ∈ TB := inT6 119 (by decide +kernel) rfl
def m_Kn_chooseAsk : MI := (⟨"RowWalks$Knowledge", "chooseAsk", "(II)V"⟩, prog_7_method_6_code, 8, none)
theorem pl_Kn_chooseAsk : plainFor m_Kn_chooseAsk.1 = true := plainFor_of_name (by decide +kernel)
theorem mk_Kn_chooseAsk : mOK m_Kn_chooseAsk 2 := ⟨inT6 137 rfl rfl, inT1 12 (by decide +kernel) rfl, by decide +kernel, by decide +kernel, nle rfl⟩
theorem im_Kn_chooseAsk : Cond.instanceMethod m_Kn_chooseAsk.1 ∈ TB := inT6 135 (by decide +kernel) rfl
theorem se_Kn_chooseAsk : Cond.selects m_Kn_chooseAsk.1.cls m_Kn_chooseAsk.1 m_Kn_chooseAsk.1 ∈ TB := inT6 136 (by decide +kernel) rfl
def m_Kn_reachRow : MI := (⟨"RowWalks$Knowledge", "reachRow", "(I)I"⟩, prog_7_method_7_code, 8, (some .int))
theorem pl_Kn_reachRow : plainFor m_Kn_reachRow.1 = true := plainFor_of_name (by decide +kernel)
theorem mk_Kn_reachRow : mOK m_Kn_reachRow 1 := ⟨inT6 141 rfl rfl, inT1 12 (by decide +kernel) rfl, by decide +kernel, by decide +kernel, nle rfl⟩
theorem im_Kn_reachRow : Cond.instanceMethod m_Kn_reachRow.1 ∈ TB := inT6 140 (by decide +kernel) rfl
theorem se_Kn_reachRow : Cond.selects m_Kn_reachRow.1.cls m_Kn_reachRow.1 m_Kn_reachRow.1 ∈ TB := inTB 62 (by decide +kernel) rfl
def m_Kn_shiftRow : MI := (⟨"RowWalks$Knowledge", "shiftRow", "(IIII)V"⟩, prog_7_method_8_code, 6, none)
theorem pl_Kn_shiftRow : plainFor m_Kn_shiftRow.1 = true := plainFor_of_name (by decide +kernel)
theorem mk_Kn_shiftRow : mOK m_Kn_shiftRow 4 := ⟨inT6 147 rfl rfl, inT1 12 (by decide +kernel) rfl, by decide +kernel, by decide +kernel, nle rfl⟩
theorem im_Kn_shiftRow : Cond.instanceMethod m_Kn_shiftRow.1 ∈ TB := inT6 146 (by decide +kernel) rfl
theorem se_Kn_shiftRow : Cond.selects m_Kn_shiftRow.1.cls m_Kn_shiftRow.1 m_Kn_shiftRow.1 ∈ TB := inTB 63 (by decide +kernel) rfl
def m_Op_init : MI := (⟨"RowWalks$Optimum", "<init>", "(LRowWalks$Columns;LRowWalks$PlanSearch;)V"⟩, prog_8_method_1_code, 3, none)
theorem pl_Op_init : plainFor m_Op_init.1 = true := plainFor_of_name (by decide +kernel)
theorem mk_Op_init : mOK m_Op_init 2 := ⟨inT2 30 rfl rfl, inT1 8 (by decide +kernel) rfl, by decide +kernel, by decide +kernel, nle rfl⟩
theorem im_Op_init : Cond.instanceMethod m_Op_init.1 ∈ TB := inT2 29 (by decide +kernel) rfl
def m_Op_find : MI := (⟨"RowWalks$Optimum", "find", "()Z"⟩, prog_8_method_2_code, 1, (some .boolean))
theorem pl_Op_find : plainFor m_Op_find.1 = true := plainFor_of_name (by decide +kernel)
theorem mk_Op_find : mOK m_Op_find 0 := ⟨inT5 120 rfl rfl, inT1 8 (by decide +kernel) rfl, by decide +kernel, by decide +kernel, nle rfl⟩
theorem im_Op_find : Cond.instanceMethod m_Op_find.1 ∈ TB := inT5 118 (by decide +kernel) rfl
theorem se_Op_find : Cond.selects m_Op_find.1.cls m_Op_find.1 m_Op_find.1 ∈ TB := inT5 119 (by decide +kernel) rfl
def m_Op_oftenOf : MI := (⟨"RowWalks$Optimum", "oftenOf", "(I)I"⟩, prog_8_method_3_code, 2, (some .int))
theorem pl_Op_oftenOf : plainFor m_Op_oftenOf.1 = true := plainFor_of_name (by decide +kernel)
theorem mk_Op_oftenOf : mOK m_Op_oftenOf 1 := ⟨inT5 173 rfl rfl, inT1 8 (by decide +kernel) rfl, by decide +kernel, by decide +kernel, nle rfl⟩
theorem im_Op_oftenOf : Cond.instanceMethod m_Op_oftenOf.1 ∈ TB := inT5 171 (by decide +kernel) rfl
theorem se_Op_oftenOf : Cond.selects m_Op_oftenOf.1.cls m_Op_oftenOf.1 m_Op_oftenOf.1 ∈ TB := inT5 172 (by decide +kernel) rfl
def m_Op_columnAt : MI := (⟨"RowWalks$Optimum", "columnAt", "(I)I"⟩, prog_8_method_4_code, 2, (some .int))
theorem pl_Op_columnAt : plainFor m_Op_columnAt.1 = true := plainFor_of_name (by decide +kernel)
theorem mk_Op_columnAt : mOK m_Op_columnAt 1 := ⟨inT5 186 rfl rfl, inT1 8 (by decide +kernel) rfl, by decide +kernel, by decide +kernel, nle rfl⟩
theorem im_Op_columnAt : Cond.instanceMethod m_Op_columnAt.1 ∈ TB := inT5 184 (by decide +kernel) rfl
theorem se_Op_columnAt : Cond.selects m_Op_columnAt.1.cls m_Op_columnAt.1 m_Op_columnAt.1 ∈ TB := inT5 185 (by decide +kernel) rfl
def m_Op_findPlan : MI := (⟨"RowWalks$Optimum", "findPlan", "()V"⟩, prog_8_method_5_code, 3, none)
theorem pl_Op_findPlan : plainFor m_Op_findPlan.1 = true := plainFor_of_name (by decide +kernel)
theorem mk_Op_findPlan : mOK m_Op_findPlan 0 := ⟨inT5 124 rfl rfl, inT1 8 (by decide +kernel) rfl, by decide +kernel, by decide +kernel, nle rfl⟩
theorem im_Op_findPlan : Cond.instanceMethod m_Op_findPlan.1 ∈ TB := inT5 123 (by decide +kernel) rfl
theorem se_Op_findPlan : Cond.selects m_Op_findPlan.1.cls m_Op_findPlan.1 m_Op_findPlan.1 ∈ TB := inTB 43 (by decide +kernel) rfl
def m_Op_findOrder : MI := (⟨"RowWalks$Optimum", "findOrder", "()V"⟩, prog_8_method_6_code, 3, none)
theorem pl_Op_findOrder : plainFor m_Op_findOrder.1 = true := plainFor_of_name (by decide +kernel)
theorem mk_Op_findOrder : mOK m_Op_findOrder 0 := ⟨inT5 136 rfl rfl, inT1 8 (by decide +kernel) rfl, by decide +kernel, by decide +kernel, nle rfl⟩
theorem im_Op_findOrder : Cond.instanceMethod m_Op_findOrder.1 ∈ TB := inT5 135 (by decide +kernel) rfl
theorem se_Op_findOrder : Cond.selects m_Op_findOrder.1.cls m_Op_findOrder.1 m_Op_findOrder.1 ∈ TB := inTB 44 (by decide +kernel) rfl
def m_Op_takenAt : MI := (⟨"RowWalks$Optimum", "takenAt", "(II)I"⟩, prog_8_method_7_code, 4, (some .int))
theorem pl_Op_takenAt : plainFor m_Op_takenAt.1 = true := plainFor_of_name (by decide +kernel)
theorem mk_Op_takenAt : mOK m_Op_takenAt 2 := ⟨inT5 145 rfl rfl, inT1 8 (by decide +kernel) rfl, by decide +kernel, by decide +kernel, nle rfl⟩
theorem im_Op_takenAt : Cond.instanceMethod m_Op_takenAt.1 ∈ TB := inT5 144 (by decide +kernel) rfl
theorem se_Op_takenAt : Cond.selects m_Op_takenAt.1.cls m_Op_takenAt.1 m_Op_takenAt.1 ∈ TB := inTB 46 (by decide +kernel) rfl
def m_Op_strayAtPart : MI := (⟨"RowWalks$Optimum", "strayAtPart", "(I)I"⟩, prog_8_method_8_code, 5, (some .int))
theorem pl_Op_strayAtPart : plainFor m_Op_strayAtPart.1 = true := plainFor_of_name (by decide +kernel)
theorem mk_Op_strayAtPart : mOK m_Op_strayAtPart 1 := ⟨inT5 140 rfl rfl, inT1 8 (by decide +kernel) rfl, by decide +kernel, by decide +kernel, nle rfl⟩
theorem im_Op_strayAtPart : Cond.instanceMethod m_Op_strayAtPart.1 ∈ TB := inT5 139 (by decide +kernel) rfl
theorem se_Op_strayAtPart : Cond.selects m_Op_strayAtPart.1.cls m_Op_strayAtPart.1 m_Op_strayAtPart.1 ∈ TB := inTB 45 (by decide +kernel) rfl
def m_Op_leastBehind : MI := (⟨"RowWalks$Optimum", "leastBehind", "(I)I"⟩, prog_8_method_9_code, 5, (some .int))
theorem pl_Op_leastBehind : plainFor m_Op_leastBehind.1 = true := plainFor_of_name (by decide +kernel)
theorem mk_Op_leastBehind : mOK m_Op_leastBehind 1 := ⟨inT5 155 rfl rfl, inT1 8 (by decide +kernel) rfl, by decide +kernel, by decide +kernel, nle rfl⟩
theorem im_Op_leastBehind : Cond.instanceMethod m_Op_leastBehind.1 ∈ TB := inT5 154 (by decide +kernel) rfl
theorem se_Op_leastBehind : Cond.selects m_Op_leastBehind.1.cls m_Op_leastBehind.1 m_Op_leastBehind.1 ∈ TB := inTB 47 (by decide +kernel) rfl
def m_Op_firstWithin : MI := (⟨"RowWalks$Optimum", "firstWithin", "(I)I"⟩, prog_8_method_10_code, 3, (some .int))
theorem pl_Op_firstWithin : plainFor m_Op_firstWithin.1 = true := plainFor_of_name (by decide +kernel)
theorem mk_Op_firstWithin : mOK m_Op_firstWithin 1 := ⟨inT5 161 rfl rfl, inT1 8 (by decide +kernel) rfl, by decide +kernel, by decide +kernel, nle rfl⟩
theorem im_Op_firstWithin : Cond.instanceMethod m_Op_firstWithin.1 ∈ TB := inT5 160 (by decide +kernel) rfl
theorem se_Op_firstWithin : Cond.selects m_Op_firstWithin.1.cls m_Op_firstWithin.1 m_Op_firstWithin.1 ∈ TB := inTB 48 (by decide +kernel) rfl
def m_Op_straySorted : MI := (⟨"RowWalks$Optimum", "straySorted", "()I"⟩, prog_8_method_11_code, 5, (some .int))
theorem pl_Op_straySorted : plainFor m_Op_straySorted.1 = true := plainFor_of_name (by decide +kernel)
theorem mk_Op_straySorted : mOK m_Op_straySorted 0 := ⟨inT5 165 rfl rfl, inT1 8 (by decide +kernel) rfl, by decide +kernel, by decide +kernel, nle rfl⟩
theorem im_Op_straySorted : Cond.instanceMethod m_Op_straySorted.1 ∈ TB := inT5 164 (by decide +kernel) rfl
theorem se_Op_straySorted : Cond.selects m_Op_straySorted.1.cls m_Op_straySorted.1 m_Op_straySorted.1 ∈ TB := inTB 49 (by decide +kernel) rfl
def m_Ps_init : MI := (⟨"RowWalks$PlanSearch", "<init>", "()V"⟩, prog_9_method_1_code, 1, none)
theorem pl_Ps_init : plainFor m_Ps_init.1 = true := plainFor_of_name (by decide +kernel)
theorem mk_Ps_init : mOK m_Ps_init 0 := ⟨inT1 166 rfl rfl, inT1 6 (by decide +kernel) rfl, by decide +kernel, by decide +kernel, nle rfl⟩
theorem im_Ps_init : Cond.instanceMethod m_Ps_init.1 ∈ TB := inT1 165 (by decide +kernel) rfl
def m_Ps_run : MI := (⟨"RowWalks$PlanSearch", "run", "(LRowWalks$Columns;II[II)V"⟩, prog_9_method_2_code, 7, none)
theorem pl_Ps_run : plainFor m_Ps_run.1 = true := plainFor_of_name (by decide +kernel)
theorem mk_Ps_run : mOK m_Ps_run 5 := ⟨inT5 77 rfl rfl, inT1 6 (by decide +kernel) rfl, by decide +kernel, by decide +kernel, nle rfl⟩
theorem im_Ps_run : Cond.instanceMethod m_Ps_run.1 ∈ TB := inT5 75 (by decide +kernel) rfl
theorem se_Ps_run : Cond.selects m_Ps_run.1.cls m_Ps_run.1 m_Ps_run.1 ∈ TB := inT5 76 (by decide +kernel) rfl
def m_Ps_takeNumbers : MI := (⟨"RowWalks$PlanSearch", "takeNumbers", "(II)V"⟩, prog_9_method_3_code, 7, none)
theorem pl_Ps_takeNumbers : plainFor m_Ps_takeNumbers.1 = true := plainFor_of_name (by decide +kernel)
theorem mk_Ps_takeNumbers : mOK m_Ps_takeNumbers 2 := ⟨inT5 82 rfl rfl, inT1 6 (by decide +kernel) rfl, by decide +kernel, by decide +kernel, nle rfl⟩
theorem im_Ps_takeNumbers : Cond.instanceMethod m_Ps_takeNumbers.1 ∈ TB := inT5 81 (by decide +kernel) rfl
theorem se_Ps_takeNumbers : Cond.selects m_Ps_takeNumbers.1.cls m_Ps_takeNumbers.1 m_Ps_takeNumbers.1 ∈ TB := inTB 37 (by decide +kernel) rfl
def m_Ps_choose : MI := (⟨"RowWalks$PlanSearch", "choose", "(III)V"⟩, prog_9_method_4_code, 4, none)
theorem pl_Ps_choose : plainFor m_Ps_choose.1 = true := plainFor_of_name (by decide +kernel)
theorem mk_Ps_choose : mOK m_Ps_choose 3 := ⟨inT5 91 rfl rfl, inT1 6 (by decide +kernel) rfl, by decide +kernel, by decide +kernel, nle rfl⟩
theorem im_Ps_choose : Cond.instanceMethod m_Ps_choose.1 ∈ TB := inT5 90 (by decide +kernel) rfl
theorem se_Ps_choose : Cond.selects m_Ps_choose.1.cls m_Ps_choose.1 m_Ps_choose.1 ∈ TB := inTB 38 (by decide +kernel) rfl
def m_Ps_share : MI := (⟨"RowWalks$PlanSearch", "share", "(III)V"⟩, prog_9_method_5_code, 6, none)
theorem pl_Ps_share : plainFor m_Ps_share.1 = true := plainFor_of_name (by decide +kernel)
theorem mk_Ps_share : mOK m_Ps_share 3 := ⟨inT5 103 rfl rfl, inT1 6 (by decide +kernel) rfl, by decide +kernel, by decide +kernel, nle rfl⟩
theorem im_Ps_share : Cond.instanceMethod m_Ps_share.1 ∈ TB := inT5 102 (by decide +kernel) rfl
theorem se_Ps_share : Cond.selects m_Ps_share.1.cls m_Ps_share.1 m_Ps_share.1 ∈ TB := inTB 41 (by decide +kernel) rfl
def m_Ps_isOutOfReach : MI := (⟨"RowWalks$PlanSearch", "isOutOfReach", "(II)Z"⟩, prog_9_method_6_code, 5, (some .boolean))
theorem pl_Ps_isOutOfReach : plainFor m_Ps_isOutOfReach.1 = true := plainFor_of_name (by decide +kernel)
theorem mk_Ps_isOutOfReach : mOK m_Ps_isOutOfReach 2 := ⟨inT5 99 rfl rfl, inT1 6 (by decide +kernel) rfl, by decide +kernel, by decide +kernel, nle rfl⟩
theorem im_Ps_isOutOfReach : Cond.instanceMethod m_Ps_isOutOfReach.1 ∈ TB := inT5 98 (by decide +kernel) rfl
theorem se_Ps_isOutOfReach : Cond.selects m_Ps_isOutOfReach.1.cls m_Ps_isOutOfReach.1 m_Ps_isOutOfReach.1 ∈ TB := inTB 40 (by decide +kernel) rfl
def m_Ps_shiftRest : MI := (⟨"RowWalks$PlanSearch", "shiftRest", "(II)V"⟩, prog_9_method_7_code, 4, none)
theorem pl_Ps_shiftRest : plainFor m_Ps_shiftRest.1 = true := plainFor_of_name (by decide +kernel)
theorem mk_Ps_shiftRest : mOK m_Ps_shiftRest 2 := ⟨inT5 107 rfl rfl, inT1 6 (by decide +kernel) rfl, by decide +kernel, by decide +kernel, nle rfl⟩
theorem im_Ps_shiftRest : Cond.instanceMethod m_Ps_shiftRest.1 ∈ TB := inT5 106 (by decide +kernel) rfl
theorem se_Ps_shiftRest : Cond.selects m_Ps_shiftRest.1.cls m_Ps_shiftRest.1 m_Ps_shiftRest.1 ∈ TB := inTB 42 (by decide +kernel) rfl
def m_Ps_take : MI := (⟨"RowWalks$PlanSearch", "take", "(I)V"⟩, prog_9_method_8_code, 2, none)
theorem pl_Ps_take : plainFor m_Ps_take.1 = true := plainFor_of_name (by decide +kernel)
theorem mk_Ps_take : mOK m_Ps_take 1 := ⟨inT5 95 rfl rfl, inT1 6 (by decide +kernel) rfl, by decide +kernel, by decide +kernel, nle rfl⟩
theorem im_Ps_take : Cond.instanceMethod m_Ps_take.1 ∈ TB := inT5 94 (by decide +kernel) rfl
theorem se_Ps_take : Cond.selects m_Ps_take.1.cls m_Ps_take.1 m_Ps_take.1 ∈ TB := inTB 39 (by decide +kernel) rfl
def m_Rd_init : MI := (⟨"RowWalks$Reader", "<init>", "(LRowWalks$Tape;)V"⟩, prog_10_method_1_code, 2, none)
theorem pl_Rd_init : plainFor m_Rd_init.1 = true := plainFor_of_name (by decide +kernel)
theorem mk_Rd_init : mOK m_Rd_init 1 := ⟨inT1 98 rfl rfl, inT1 4 (by decide +kernel) rfl, by decide +kernel, by decide +kernel, nle rfl⟩
theorem im_Rd_init : Cond.instanceMethod m_Rd_init.1 ∈ TB := inT1 97 (by decide +kernel) rfl
def m_Rd_read : MI := (⟨"RowWalks$Reader", "read", "()Z"⟩, prog_10_method_2_code, 2, (some .boolean))
theorem pl_Rd_read : plainFor m_Rd_read.1 = true := plainFor_of_name (by decide +kernel)
theorem mk_Rd_read : mOK m_Rd_read 0 := ⟨inT3 92 rfl rfl, inT1 4 (by decide +kernel) rfl, by decide +kernel, by decide +kernel, nle rfl⟩
theorem im_Rd_read : Cond.instanceMethod m_Rd_read.1 ∈ TB := inT3 90 (by decide +kernel) rfl
theorem se_Rd_read : Cond.selects m_Rd_read.1.cls m_Rd_read.1 m_Rd_read.1 ∈ TB := inT3 91 (by decide +kernel) rfl
def m_Rd_fail : MI := (⟨"RowWalks$Reader", "fail", "(I)Z"⟩, prog_10_method_3_code, 2, (some .boolean))
theorem pl_Rd_fail : plainFor m_Rd_fail.1 = true := plainFor_of_name (by decide +kernel)
theorem mk_Rd_fail : mOK m_Rd_fail 1 := ⟨inT3 193 rfl rfl, inT1 4 (by decide +kernel) rfl, by decide +kernel, by decide +kernel, nle rfl⟩
theorem im_Rd_fail : Cond.instanceMethod m_Rd_fail.1 ∈ TB := inT3 192 (by decide +kernel) rfl
theorem se_Rd_fail : Cond.selects m_Rd_fail.1.cls m_Rd_fail.1 m_Rd_fail.1 ∈ TB := inTB 7 (by decide +kernel) rfl
def m_Rd_readLine : MI := (⟨"RowWalks$Reader", "readLine", "(I)Z"⟩, prog_10_method_4_code, 2, (some .boolean))
theorem pl_Rd_readLine : plainFor m_Rd_readLine.1 = true := plainFor_of_name (by decide +kernel)
theorem mk_Rd_readLine : mOK m_Rd_readLine 1 := ⟨inT3 127 rfl rfl, inT1 4 (by decide +kernel) rfl, by decide +kernel, by decide +kernel, nle rfl⟩
theorem im_Rd_readLine : Cond.instanceMethod m_Rd_readLine.1 ∈ TB := inT3 126 (by decide +kernel) rfl
theorem se_Rd_readLine : Cond.selects m_Rd_readLine.1.cls m_Rd_readLine.1 m_Rd_readLine.1 ∈ TB := inTB 4 (by decide +kernel) rfl
def m_Rd_readRows : MI := (⟨"RowWalks$Reader", "readRows", "()Z"⟩, prog_10_method_5_code, 1, (some .boolean))
theorem pl_Rd_readRows : plainFor m_Rd_readRows.1 = true := plainFor_of_name (by decide +kernel)
theorem mk_Rd_readRows : mOK m_Rd_readRows 0 := ⟨inT3 184 rfl rfl, inT1 4 (by decide +kernel) rfl, by decide +kernel, by decide +kernel, nle rfl⟩
theorem im_Rd_readRows : Cond.instanceMethod m_Rd_readRows.1 ∈ TB := inT3 183 (by decide +kernel) rfl
theorem se_Rd_readRows : Cond.selects m_Rd_readRows.1.cls m_Rd_readRows.1 m_Rd_readRows.1 ∈ TB := inTB 5 (by decide +kernel) rfl
def m_Rd_readSteps : MI := (⟨"RowWalks$Reader", "readSteps", "()Z"⟩, prog_10_method_6_code, 1, (some .boolean))
theorem pl_Rd_readSteps : plainFor m_Rd_readSteps.1 = true := plainFor_of_name (by decide +kernel)
theorem mk_Rd_readSteps : mOK m_Rd_readSteps 0 := ⟨inT3 237 rfl rfl, inT1 4 (by decide +kernel) rfl, by decide +kernel, by decide +kernel, nle rfl⟩
theorem im_Rd_readSteps : Cond.instanceMethod m_Rd_readSteps.1 ∈ TB := inT3 236 (by decide +kernel) rfl
theorem se_Rd_readSteps : Cond.selects m_Rd_readSteps.1.cls m_Rd_readSteps.1 m_Rd_readSteps.1 ∈ TB := inTB 14 (by decide +kernel) rfl
def m_Rd_readNeed : MI := (⟨"RowWalks$Reader", "readNeed", "()Z"⟩, prog_10_method_7_code, 2, (some .boolean))
theorem pl_Rd_readNeed : plainFor m_Rd_readNeed.1 = true := plainFor_of_name (by decide +kernel)
theorem mk_Rd_readNeed : mOK m_Rd_readNeed 0 := ⟨inT3 233 rfl rfl, inT1 4 (by decide +kernel) rfl, by decide +kernel, by decide +kernel, nle rfl⟩
theorem im_Rd_readNeed : Cond.instanceMethod m_Rd_readNeed.1 ∈ TB := inT3 232 (by decide +kernel) rfl
