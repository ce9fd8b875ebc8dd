theorem se_Rd_readNeed : Cond.selects m_Rd_readNeed.1.cls m_Rd_readNeed.1 m_Rd_readNeed.1 ∈ TB := inTB 13 (by decide +kernel) rfl
def m_Rd_readColumn : MI := (⟨"RowWalks$Reader", "readColumn", "()Z"⟩, prog_10_method_8_code, 3, (some .boolean))
theorem pl_Rd_readColumn : plainFor m_Rd_readColumn.1 = true := plainFor_of_name (by decide +kernel)
theorem mk_Rd_readColumn : mOK m_Rd_readColumn 0 := ⟨inT3 206 rfl rfl, inT1 4 (by decide +kernel) rfl, by decide +kernel, by decide +kernel, nle rfl⟩
theorem im_Rd_readColumn : Cond.instanceMethod m_Rd_readColumn.1 ∈ TB := inT3 205 (by decide +kernel) rfl
theorem se_Rd_readColumn : Cond.selects m_Rd_readColumn.1.cls m_Rd_readColumn.1 m_Rd_readColumn.1 ∈ TB := inTB 9 (by decide +kernel) rfl
def m_Rd_isNewName : MI := (⟨"RowWalks$Reader", "isNewName", "()Z"⟩, prog_10_method_9_code, 2, (some .boolean))
theorem pl_Rd_isNewName : plainFor m_Rd_isNewName.1 = true := plainFor_of_name (by decide +kernel)
theorem mk_Rd_isNewName : mOK m_Rd_isNewName 0 := ⟨inT3 210 rfl rfl, inT1 4 (by decide +kernel) rfl, by decide +kernel, by decide +kernel, nle rfl⟩
theorem im_Rd_isNewName : Cond.instanceMethod m_Rd_isNewName.1 ∈ TB := inT3 209 (by decide +kernel) rfl
theorem se_Rd_isNewName : Cond.selects m_Rd_isNewName.1.cls m_Rd_isNewName.1 m_Rd_isNewName.1 ∈ TB := inTB 10 (by decide +kernel) rfl
def m_Rd_isReserved : MI := (⟨"RowWalks$Reader", "isReserved", "()Z"⟩, prog_10_method_10_code, 1, (some .boolean))
theorem pl_Rd_isReserved : plainFor m_Rd_isReserved.1 = true := plainFor_of_name (by decide +kernel)
theorem mk_Rd_isReserved : mOK m_Rd_isReserved 0 := ⟨inT3 214 rfl rfl, inT1 4 (by decide +kernel) rfl, by decide +kernel, by decide +kernel, nle rfl⟩
theorem im_Rd_isReserved : Cond.instanceMethod m_Rd_isReserved.1 ∈ TB := inT3 213 (by decide +kernel) rfl
theorem se_Rd_isReserved : Cond.selects m_Rd_isReserved.1.cls m_Rd_isReserved.1 m_Rd_isReserved.1 ∈ TB := inTB 11 (by decide +kernel) rfl
def m_Rd_isNumber : MI := (⟨"RowWalks$Reader", "isNumber", "(II)Z"⟩, prog_10_method_11_code, 4, (some .boolean))
theorem pl_Rd_isNumber : plainFor m_Rd_isNumber.1 = true := plainFor_of_name (by decide +kernel)
theorem mk_Rd_isNumber : mOK m_Rd_isNumber 2 := ⟨inT3 189 rfl rfl, inT1 4 (by decide +kernel) rfl, by decide +kernel, by decide +kernel, nle rfl⟩
theorem im_Rd_isNumber : Cond.instanceMethod m_Rd_isNumber.1 ∈ TB := inT3 188 (by decide +kernel) rfl
theorem se_Rd_isNumber : Cond.selects m_Rd_isNumber.1.cls m_Rd_isNumber.1 m_Rd_isNumber.1 ∈ TB := inTB 6 (by decide +kernel) rfl
def m_Rd_readSigned : MI := (⟨"RowWalks$Reader", "readSigned", "(II)Z"⟩, prog_10_method_12_code, 4, (some .boolean))
theorem pl_Rd_readSigned : plainFor m_Rd_readSigned.1 = true := plainFor_of_name (by decide +kernel)
theorem mk_Rd_readSigned : mOK m_Rd_readSigned 2 := ⟨inT3 225 rfl rfl, inT1 4 (by decide +kernel) rfl, by decide +kernel, by decide +kernel, nle rfl⟩
theorem im_Rd_readSigned : Cond.instanceMethod m_Rd_readSigned.1 ∈ TB := inT3 224 (by decide +kernel) rfl
theorem se_Rd_readSigned : Cond.selects m_Rd_readSigned.1.cls m_Rd_readSigned.1 m_Rd_readSigned.1 ∈ TB := inTB 12 (by decide +kernel) rfl
def m_Rd_endLine : MI := (⟨"RowWalks$Reader", "endLine", "()Z"⟩, prog_10_method_13_code, 1, (some .boolean))
theorem pl_Rd_endLine : plainFor m_Rd_endLine.1 = true := plainFor_of_name (by decide +kernel)
theorem mk_Rd_endLine : mOK m_Rd_endLine 0 := ⟨inT3 201 rfl rfl, inT1 4 (by decide +kernel) rfl, by decide +kernel, by decide +kernel, nle rfl⟩
theorem im_Rd_endLine : Cond.instanceMethod m_Rd_endLine.1 ∈ TB := inT3 200 (by decide +kernel) rfl
theorem se_Rd_endLine : Cond.selects m_Rd_endLine.1.cls m_Rd_endLine.1 m_Rd_endLine.1 ∈ TB := inTB 8 (by decide +kernel) rfl
def m_St_init : MI := (⟨"RowWalks$Strip", "<init>", "(LRowWalks$Columns;)V"⟩, prog_11_method_1_code, 2, none)
theorem pl_St_init : plainFor m_St_init.1 = true := plainFor_of_name (by decide +kernel)
theorem mk_St_init : mOK m_St_init 1 := ⟨inT1 208 rfl rfl, inT1 7 (by decide +kernel) rfl, by decide +kernel, by decide +kernel, nle rfl⟩
theorem im_St_init : Cond.instanceMethod m_St_init.1 ∈ TB := inT1 207 (by decide +kernel) rfl
def m_St_sweep : MI := (⟨"RowWalks$Strip", "sweep", "(II)V"⟩, prog_11_method_2_code, 6, none)
theorem pl_St_sweep : plainFor m_St_sweep.1 = true := plainFor_of_name (by decide +kernel)
theorem mk_St_sweep : mOK m_St_sweep 2 := ⟨inT4 224 rfl rfl, inT1 7 (by decide +kernel) rfl, by decide +kernel, by decide +kernel, nle rfl⟩
theorem im_St_sweep : Cond.instanceMethod m_St_sweep.1 ∈ TB := inT4 222 (by decide +kernel) rfl
theorem se_St_sweep : Cond.selects m_St_sweep.1.cls m_St_sweep.1 m_St_sweep.1 ∈ TB := inT4 223 (by decide +kernel) rfl
def m_St_makeRoom : MI := (⟨"RowWalks$Strip", "makeRoom", "()V"⟩, prog_11_method_3_code, 3, none)
theorem pl_St_makeRoom : plainFor m_St_makeRoom.1 = true := plainFor_of_name (by decide +kernel)
theorem mk_St_makeRoom : mOK m_St_makeRoom 0 := ⟨inT4 228 rfl rfl, inT1 7 (by decide +kernel) rfl, by decide +kernel, by decide +kernel, nle rfl⟩
theorem im_St_makeRoom : Cond.instanceMethod m_St_makeRoom.1 ∈ TB := inT4 227 (by decide +kernel) rfl
theorem se_St_makeRoom : Cond.selects m_St_makeRoom.1.cls m_St_makeRoom.1 m_St_makeRoom.1 ∈ TB := inTB 24 (by decide +kernel) rfl
def m_St_setBounds : MI := (⟨"RowWalks$Strip", "setBounds", "(II)V"⟩, prog_11_method_4_code, 8, none)
theorem pl_St_setBounds : plainFor m_St_setBounds.1 = true := plainFor_of_name (by decide +kernel)
theorem mk_St_setBounds : mOK m_St_setBounds 2 := ⟨inT4 232 rfl rfl, inT1 7 (by decide +kernel) rfl, by decide +kernel, by decide +kernel, nle rfl⟩
theorem im_St_setBounds : Cond.instanceMethod m_St_setBounds.1 ∈ TB := inT4 231 (by decide +kernel) rfl
theorem se_St_setBounds : Cond.selects m_St_setBounds.1.cls m_St_setBounds.1 m_St_setBounds.1 ∈ TB := inTB 25 (by decide +kernel) rfl
def m_St_layer : MI := (⟨"RowWalks$Strip", "layer", "(I)I"⟩, prog_11_method_5_code, 1, (some .int))
theorem pl_St_layer : plainFor m_St_layer.1 = true := plainFor_of_name (by decide +kernel)
theorem mk_St_layer : mOK m_St_layer 1 := ⟨inT5 14 rfl rfl, inT1 7 (by decide +kernel) rfl, by decide +kernel, by decide +kernel, nle rfl⟩
theorem st_St_layer : Cond.static m_St_layer.1 ∈ TB := inT5 13 (by decide +kernel) rfl
def m_St_start : MI := (⟨"RowWalks$Strip", "start", "()I"⟩, prog_11_method_6_code, 2, (some .int))
theorem pl_St_start : plainFor m_St_start.1 = true := plainFor_of_name (by decide +kernel)
theorem mk_St_start : mOK m_St_start 0 := ⟨inT5 2 rfl rfl, inT1 7 (by decide +kernel) rfl, by decide +kernel, by decide +kernel, nle rfl⟩
theorem im_St_start : Cond.instanceMethod m_St_start.1 ∈ TB := inT5 1 (by decide +kernel) rfl
theorem se_St_start : Cond.selects m_St_start.1.cls m_St_start.1 m_St_start.1 ∈ TB := inTB 26 (by decide +kernel) rfl
def m_St_cellOf : MI := (⟨"RowWalks$Strip", "cellOf", "(I)I"⟩, prog_11_method_7_code, 5, (some .int))
theorem pl_St_cellOf : plainFor m_St_cellOf.1 = true := plainFor_of_name (by decide +kernel)
theorem mk_St_cellOf : mOK m_St_cellOf 1 := ⟨inT5 7 rfl rfl, inT1 7 (by decide +kernel) rfl, by decide +kernel, by decide +kernel, nle rfl⟩
theorem im_St_cellOf : Cond.instanceMethod m_St_cellOf.1 ∈ TB := inT5 6 (by decide +kernel) rfl
theorem se_St_cellOf : Cond.selects m_St_cellOf.1.cls m_St_cellOf.1 m_St_cellOf.1 ∈ TB := inTB 27 (by decide +kernel) rfl
def m_St_spread : MI := (⟨"RowWalks$Strip", "spread", "(II)I"⟩, prog_11_method_8_code, 8, (some .int))
theorem pl_St_spread : plainFor m_St_spread.1 = true := plainFor_of_name (by decide +kernel)
theorem mk_St_spread : mOK m_St_spread 2 := ⟨inT5 11 rfl rfl, inT1 7 (by decide +kernel) rfl, by decide +kernel, by decide +kernel, nle rfl⟩
theorem im_St_spread : Cond.instanceMethod m_St_spread.1 ∈ TB := inT5 10 (by decide +kernel) rfl
theorem se_St_spread : Cond.selects m_St_spread.1.cls m_St_spread.1 m_St_spread.1 ∈ TB := inTB 28 (by decide +kernel) rfl
def m_St_leave : MI := (⟨"RowWalks$Strip", "leave", "(III)I"⟩, prog_11_method_9_code, 18, (some .int))
theorem pl_St_leave : plainFor m_St_leave.1 = true := plainFor_of_name (by decide +kernel)
theorem mk_St_leave : mOK m_St_leave 3 := ⟨inT5 18 rfl rfl, inT1 7 (by decide +kernel) rfl, by decide +kernel, by decide +kernel, nle rfl⟩
theorem im_St_leave : Cond.instanceMethod m_St_leave.1 ∈ TB := inT5 17 (by decide +kernel) rfl
theorem se_St_leave : Cond.selects m_St_leave.1.cls m_St_leave.1 m_St_leave.1 ∈ TB := inTB 29 (by decide +kernel) rfl
def m_St_reach : MI := (⟨"RowWalks$Strip", "reach", "(IIII)Z"⟩, prog_11_method_10_code, 8, (some .boolean))
theorem pl_St_reach : plainFor m_St_reach.1 = true := plainFor_of_name (by decide +kernel)
theorem mk_St_reach : mOK m_St_reach 4 := ⟨inT5 23 rfl rfl, inT1 7 (by decide +kernel) rfl, by decide +kernel, by decide +kernel, nle rfl⟩
theorem im_St_reach : Cond.instanceMethod m_St_reach.1 ∈ TB := inT5 22 (by decide +kernel) rfl
theorem se_St_reach : Cond.selects m_St_reach.1.cls m_St_reach.1 m_St_reach.1 ∈ TB := inTB 30 (by decide +kernel) rfl
def m_St_choose : MI := (⟨"RowWalks$Strip", "choose", "(III)V"⟩, prog_11_method_11_code, 6, none)
theorem pl_St_choose : plainFor m_St_choose.1 = true := plainFor_of_name (by decide +kernel)
theorem mk_St_choose : mOK m_St_choose 3 := ⟨inT5 32 rfl rfl, inT1 7 (by decide +kernel) rfl, by decide +kernel, by decide +kernel, nle rfl⟩
theorem im_St_choose : Cond.instanceMethod m_St_choose.1 ∈ TB := inT5 31 (by decide +kernel) rfl
theorem se_St_choose : Cond.selects m_St_choose.1.cls m_St_choose.1 m_St_choose.1 ∈ TB := inTB 32 (by decide +kernel) rfl
def m_St_choiceAt : MI := (⟨"RowWalks$Strip", "choiceAt", "(II)I"⟩, prog_11_method_12_code, 4, (some .int))
theorem pl_St_choiceAt : plainFor m_St_choiceAt.1 = true := plainFor_of_name (by decide +kernel)
theorem mk_St_choiceAt : mOK m_St_choiceAt 2 := ⟨inT5 28 rfl rfl, inT1 7 (by decide +kernel) rfl, by decide +kernel, by decide +kernel, nle rfl⟩
theorem im_St_choiceAt : Cond.instanceMethod m_St_choiceAt.1 ∈ TB := inT5 27 (by decide +kernel) rfl
theorem se_St_choiceAt : Cond.selects m_St_choiceAt.1.cls m_St_choiceAt.1 m_St_choiceAt.1 ∈ TB := inTB 31 (by decide +kernel) rfl
def m_St_clear : MI := (⟨"RowWalks$Strip", "clear", "(II)V"⟩, prog_11_method_13_code, 5, none)
theorem pl_St_clear : plainFor m_St_clear.1 = true := plainFor_of_name (by decide +kernel)
theorem mk_St_clear : mOK m_St_clear 2 := ⟨inT5 38 rfl rfl, inT1 7 (by decide +kernel) rfl, by decide +kernel, by decide +kernel, nle rfl⟩
theorem im_St_clear : Cond.instanceMethod m_St_clear.1 ∈ TB := inT5 37 (by decide +kernel) rfl
theorem se_St_clear : Cond.selects m_St_clear.1.cls m_St_clear.1 m_St_clear.1 ∈ TB := inTB 33 (by decide +kernel) rfl
def m_St_readEnd : MI := (⟨"RowWalks$Strip", "readEnd", "(I)V"⟩, prog_11_method_14_code, 3, none)
theorem pl_St_readEnd : plainFor m_St_readEnd.1 = true := plainFor_of_name (by decide +kernel)
theorem mk_St_readEnd : mOK m_St_readEnd 1 := ⟨inT5 42 rfl rfl, inT1 7 (by decide +kernel) rfl, by decide +kernel, by decide +kernel, nle rfl⟩
theorem im_St_readEnd : Cond.instanceMethod m_St_readEnd.1 ∈ TB := inT5 41 (by decide +kernel) rfl
theorem se_St_readEnd : Cond.selects m_St_readEnd.1.cls m_St_readEnd.1 m_St_readEnd.1 ∈ TB := inTB 34 (by decide +kernel) rfl
def m_St_atNeed : MI := (⟨"RowWalks$Strip", "atNeed", "()V"⟩, prog_11_method_15_code, 2, none)
theorem pl_St_atNeed : plainFor m_St_atNeed.1 = true := plainFor_of_name (by decide +kernel)
theorem mk_St_atNeed : mOK m_St_atNeed 0 := ⟨inT5 46 rfl rfl, inT1 7 (by decide +kernel) rfl, by decide +kernel, by decide +kernel, nle rfl⟩
theorem im_St_atNeed : Cond.instanceMethod m_St_atNeed.1 ∈ TB := inT5 45 (by decide +kernel) rfl
theorem se_St_atNeed : Cond.selects m_St_atNeed.1.cls m_St_atNeed.1 m_St_atNeed.1 ∈ TB := inTB 35 (by decide +kernel) rfl
def m_St_columnAt : MI := (⟨"RowWalks$Strip", "columnAt", "(I)I"⟩, prog_11_method_16_code, 5, (some .int))
theorem pl_St_columnAt : plainFor m_St_columnAt.1 = true := plainFor_of_name (by decide +kernel)
theorem mk_St_columnAt : mOK m_St_columnAt 1 := ⟨inT5 63 rfl rfl, inT1 7 (by decide +kernel) rfl, by decide +kernel, by decide +kernel, nle rfl⟩
theorem im_St_columnAt : Cond.instanceMethod m_St_columnAt.1 ∈ TB := inT5 61 (by decide +kernel) rfl
theorem se_St_columnAt : Cond.selects m_St_columnAt.1.cls m_St_columnAt.1 m_St_columnAt.1 ∈ TB := inT5 62 (by decide +kernel) rfl
def m_Tp_init : MI := (⟨"RowWalks$Tape", "<init>", "()V"⟩, prog_12_method_1_code, 1, none)
theorem pl_Tp_init : plainFor m_Tp_init.1 = true := plainFor_of_name (by decide +kernel)
theorem mk_Tp_init : mOK m_Tp_init 0 := ⟨inT1 34 rfl rfl, inT1 2 (by decide +kernel) rfl, by decide +kernel, by decide +kernel, nle rfl⟩
theorem im_Tp_init : Cond.instanceMethod m_Tp_init.1 ∈ TB := inT1 33 (by decide +kernel) rfl
def m_Tp_put : MI := (⟨"RowWalks$Tape", "put", "(I)V"⟩, prog_12_method_2_code, 3, none)
theorem pl_Tp_put : plainFor m_Tp_put.1 = true := plainFor_of_name (by decide +kernel)
theorem mk_Tp_put : mOK m_Tp_put 1 := ⟨inT3 80 rfl rfl, inT1 2 (by decide +kernel) rfl, by decide +kernel, by decide +kernel, nle rfl⟩
theorem im_Tp_put : Cond.instanceMethod m_Tp_put.1 ∈ TB := inT3 78 (by decide +kernel) rfl
theorem se_Tp_put : Cond.selects m_Tp_put.1.cls m_Tp_put.1 m_Tp_put.1 ∈ TB := inT3 79 (by decide +kernel) rfl
def m_Tp_rewind : MI := (⟨"RowWalks$Tape", "rewind", "()V"⟩, prog_12_method_3_code, 1, none)
theorem pl_Tp_rewind : plainFor m_Tp_rewind.1 = true := plainFor_of_name (by decide +kernel)
theorem mk_Tp_rewind : mOK m_Tp_rewind 0 := ⟨inT3 103 rfl rfl, inT1 2 (by decide +kernel) rfl, by decide +kernel, by decide +kernel, nle rfl⟩
theorem im_Tp_rewind : Cond.instanceMethod m_Tp_rewind.1 ∈ TB := inT3 101 (by decide +kernel) rfl
theorem se_Tp_rewind : Cond.selects m_Tp_rewind.1.cls m_Tp_rewind.1 m_Tp_rewind.1 ∈ TB := inT3 102 (by decide +kernel) rfl
def m_Tp_advance : MI := (⟨"RowWalks$Tape", "advance", "()V"⟩, prog_12_method_4_code, 1, none)
theorem pl_Tp_advance : plainFor m_Tp_advance.1 = true := plainFor_of_name (by decide +kernel)
theorem mk_Tp_advance : mOK m_Tp_advance 0 := ⟨inT3 107 rfl rfl, inT1 2 (by decide +kernel) rfl, by decide +kernel, by decide +kernel, nle rfl⟩
theorem im_Tp_advance : Cond.instanceMethod m_Tp_advance.1 ∈ TB := inT3 105 (by decide +kernel) rfl
theorem se_Tp_advance : Cond.selects m_Tp_advance.1.cls m_Tp_advance.1 m_Tp_advance.1 ∈ TB := inT3 106 (by decide +kernel) rfl
def m_Tp_isLetter : MI := (⟨"RowWalks$Tape", "isLetter", "(I)Z"⟩, prog_12_method_5_code, 2, (some .boolean))
theorem pl_Tp_isLetter : plainFor m_Tp_isLetter.1 = true := plainFor_of_name (by decide +kernel)
theorem mk_Tp_isLetter : mOK m_Tp_isLetter 1 := ⟨inT3 111 rfl rfl, inT1 2 (by decide +kernel) rfl, by decide +kernel, by decide +kernel, nle rfl⟩
theorem im_Tp_isLetter : Cond.instanceMethod m_Tp_isLetter.1 ∈ TB := inT3 110 (by decide +kernel) rfl
theorem se_Tp_isLetter : Cond.selects m_Tp_isLetter.1.cls m_Tp_isLetter.1 m_Tp_isLetter.1 ∈ TB := inTB 0 (by decide +kernel) rfl
def m_Tp_isDigit : MI := (⟨"RowWalks$Tape", "isDigit", "(I)Z"⟩, prog_12_method_6_code, 2, (some .boolean))
theorem pl_Tp_isDigit : plainFor m_Tp_isDigit.1 = true := plainFor_of_name (by decide +kernel)
theorem mk_Tp_isDigit : mOK m_Tp_isDigit 1 := ⟨inT3 119 rfl rfl, inT1 2 (by decide +kernel) rfl, by decide +kernel, by decide +kernel, nle rfl⟩
theorem im_Tp_isDigit : Cond.instanceMethod m_Tp_isDigit.1 ∈ TB := inT3 118 (by decide +kernel) rfl
theorem se_Tp_isDigit : Cond.selects m_Tp_isDigit.1.cls m_Tp_isDigit.1 m_Tp_isDigit.1 ∈ TB := inTB 2 (by decide +kernel) rfl
def m_Tp_takeWord : MI := (⟨"RowWalks$Tape", "takeWord", "()V"⟩, prog_12_method_7_code, 1, none)
theorem pl_Tp_takeWord : plainFor m_Tp_takeWord.1 = true := plainFor_of_name (by decide +kernel)
theorem mk_Tp_takeWord : mOK m_Tp_takeWord 0 := ⟨inT3 115 rfl rfl, inT1 2 (by decide +kernel) rfl, by decide +kernel, by decide +kernel, nle rfl⟩
theorem im_Tp_takeWord : Cond.instanceMethod m_Tp_takeWord.1 ∈ TB := inT3 114 (by decide +kernel) rfl
theorem se_Tp_takeWord : Cond.selects m_Tp_takeWord.1.cls m_Tp_takeWord.1 m_Tp_takeWord.1 ∈ TB := inTB 1 (by decide +kernel) rfl
def m_Tp_takeDigits : MI := (⟨"RowWalks$Tape", "takeDigits", "()V"⟩, prog_12_method_8_code, 1, none)
theorem pl_Tp_takeDigits : plainFor m_Tp_takeDigits.1 = true := plainFor_of_name (by decide +kernel)
theorem mk_Tp_takeDigits : mOK m_Tp_takeDigits 0 := ⟨inT3 123 rfl rfl, inT1 2 (by decide +kernel) rfl, by decide +kernel, by decide +kernel, nle rfl⟩
theorem im_Tp_takeDigits : Cond.instanceMethod m_Tp_takeDigits.1 ∈ TB := inT3 122 (by decide +kernel) rfl
theorem se_Tp_takeDigits : Cond.selects m_Tp_takeDigits.1.cls m_Tp_takeDigits.1 m_Tp_takeDigits.1 ∈ TB := inTB 3 (by decide +kernel) rfl
def m_Tp_value : MI := (⟨"RowWalks$Tape", "value", "()I"⟩, prog_12_method_9_code, 3, (some .int))
theorem pl_Tp_value : plainFor m_Tp_value.1 = true := plainFor_of_name (by decide +kernel)
theorem mk_Tp_value : mOK m_Tp_value 0 := ⟨inT3 197 rfl rfl, inT1 2 (by decide +kernel) rfl, by decide +kernel, by decide +kernel, nle rfl⟩
theorem im_Tp_value : Cond.instanceMethod m_Tp_value.1 ∈ TB := inT3 195 (by decide +kernel) rfl
theorem se_Tp_value : Cond.selects m_Tp_value.1.cls m_Tp_value.1 m_Tp_value.1 ∈ TB := inT3 196 (by decide +kernel) rfl
def m_Tp_isWord : MI := (⟨"RowWalks$Tape", "isWord", "(Ljava/lang/String;)Z"⟩, prog_12_method_10_code, 3, (some .boolean))
theorem pl_Tp_isWord : plainFor m_Tp_isWord.1 = true := plainFor_of_name (by decide +kernel)
theorem mk_Tp_isWord : mOK m_Tp_isWord 1 := ⟨inT3 132 rfl rfl, inT1 2 (by decide +kernel) rfl, by decide +kernel, by decide +kernel, nle rfl⟩
theorem im_Tp_isWord : Cond.instanceMethod m_Tp_isWord.1 ∈ TB := inT3 130 (by decide +kernel) rfl
theorem se_Tp_isWord : Cond.selects m_Tp_isWord.1.cls m_Tp_isWord.1 m_Tp_isWord.1 ∈ TB := inT3 131 (by decide +kernel) rfl
def m_Tp_isSameAs : MI := (⟨"RowWalks$Tape", "isSameAs", "(II)Z"⟩, prog_12_method_11_code, 4, (some .boolean))
theorem pl_Tp_isSameAs : plainFor m_Tp_isSameAs.1 = true := plainFor_of_name (by decide +kernel)
theorem mk_Tp_isSameAs : mOK m_Tp_isSameAs 2 := ⟨inT3 221 rfl rfl, inT1 2 (by decide +kernel) rfl, by decide +kernel, by decide +kernel, nle rfl⟩
theorem im_Tp_isSameAs : Cond.instanceMethod m_Tp_isSameAs.1 ∈ TB := inT3 219 (by decide +kernel) rfl
theorem se_Tp_isSameAs : Cond.selects m_Tp_isSameAs.1.cls m_Tp_isSameAs.1 m_Tp_isSameAs.1 ∈ TB := inT3 220 (by decide +kernel) rfl
def m_X_init : MI := (⟨"RowWalks", "<init>", "()V"⟩, prog_1_method_1_code, 2, none)
theorem pl_X_init : plainFor m_X_init.1 = true := plainFor_of_name (by decide +kernel)
theorem mk_X_init : mOK m_X_init 0 := ⟨inT1 26 rfl rfl, inT1 1 (by decide +kernel) rfl, by decide +kernel, by decide +kernel, nle rfl⟩
theorem im_X_init : Cond.instanceMethod m_X_init.1 ∈ TB := inT1 25 (by decide +kernel) rfl
def m_X_feed : MI := (⟨"RowWalks", "feed", "(IIIII)I"⟩, prog_1_method_2_code, 6, (some .int))
theorem pl_X_feed : plainFor m_X_feed.1 = true := plainFor_of_name (by decide +kernel)
theorem mk_X_feed : mOK m_X_feed 5 := ⟨inT3 76 rfl rfl, inT1 1 (by decide +kernel) rfl, by decide +kernel, by decide +kernel, nle rfl⟩
theorem im_X_feed : Cond.instanceMethod m_X_feed.1 ∈ TB := inT3 74 (by decide +kernel) rfl
theorem se_X_feed : Cond.selects m_X_feed.1.cls m_X_feed.1 m_X_feed.1 ∈ TB := inT3 75 (by decide +kernel) rfl
def m_X_end : MI := (⟨"RowWalks", "end", "(I)I"⟩, prog_1_method_3_code, 2, (some .int))
theorem pl_X_end : plainFor m_X_end.1 = true := plainFor_of_name (by decide +kernel)
theorem mk_X_end : mOK m_X_end 1 := ⟨inT3 84 rfl rfl, inT1 1 (by decide +kernel) rfl, by decide +kernel, by decide +kernel, nle rfl⟩
theorem im_X_end : Cond.instanceMethod m_X_end.1 ∈ TB := inT3 82 (by decide +kernel) rfl
theorem se_X_end : Cond.selects m_X_end.1.cls m_X_end.1 m_X_end.1 ∈ TB := inT3 83 (by decide +kernel) rfl
def m_X_program : MI := (⟨"RowWalks", "program", "()I"⟩, prog_1_method_4_code, 3, (some .int))
theorem pl_X_program : plainFor m_X_program.1 = true := plainFor_of_name (by decide +kernel)
theorem mk_X_program : mOK m_X_program 0 := ⟨inT3 88 rfl rfl, inT1 1 (by decide +kernel) rfl, by decide +kernel, by decide +kernel, nle rfl⟩
theorem im_X_program : Cond.instanceMethod m_X_program.1 ∈ TB := inT3 86 (by decide +kernel) rfl
theorem se_X_program : Cond.selects m_X_program.1.cls m_X_program.1 m_X_program.1 ∈ TB := inT3 87 (by decide +kernel) rfl
def m_X_fault : MI := (⟨"RowWalks", "fault", "(I)I"⟩, prog_1_method_5_code, 2, (some .int))
theorem pl_X_fault : plainFor m_X_fault.1 = true := plainFor_of_name (by decide +kernel)
theorem mk_X_fault : mOK m_X_fault 1 := ⟨inT4 17 rfl rfl, inT1 1 (by decide +kernel) rfl, by decide +kernel, by decide +kernel, nle rfl⟩
theorem im_X_fault : Cond.instanceMethod m_X_fault.1 ∈ TB := inT4 15 (by decide +kernel) rfl
theorem se_X_fault : Cond.selects m_X_fault.1.cls m_X_fault.1 m_X_fault.1 ∈ TB := inT4 16 (by decide +kernel) rfl
def m_X_number : MI := (⟨"RowWalks", "number", "(II)I"⟩, prog_1_method_6_code, 3, (some .int))
theorem pl_X_number : plainFor m_X_number.1 = true := plainFor_of_name (by decide +kernel)
theorem mk_X_number : mOK m_X_number 2 := ⟨inT4 21 rfl rfl, inT1 1 (by decide +kernel) rfl, by decide +kernel, by decide +kernel, nle rfl⟩
theorem im_X_number : Cond.instanceMethod m_X_number.1 ∈ TB := inT4 19 (by decide +kernel) rfl
theorem se_X_number : Cond.selects m_X_number.1.cls m_X_number.1 m_X_number.1 ∈ TB := inT4 20 (by decide +kernel) rfl
def m_X_gain : MI := (⟨"RowWalks", "gain", "(I)I"⟩, prog_1_method_7_code, 2, (some .int))
theorem pl_X_gain : plainFor m_X_gain.1 = true := plainFor_of_name (by decide +kernel)
theorem mk_X_gain : mOK m_X_gain 1 := ⟨inT4 38 rfl rfl, inT1 1 (by decide +kernel) rfl, by decide +kernel, by decide +kernel, nle rfl⟩
theorem im_X_gain : Cond.instanceMethod m_X_gain.1 ∈ TB := inT4 36 (by decide +kernel) rfl
theorem se_X_gain : Cond.selects m_X_gain.1.cls m_X_gain.1 m_X_gain.1 ∈ TB := inT4 37 (by decide +kernel) rfl
def m_X_need : MI := (⟨"RowWalks", "need", "(I)I"⟩, prog_1_method_8_code, 2, (some .int))
theorem pl_X_need : plainFor m_X_need.1 = true := plainFor_of_name (by decide +kernel)
theorem mk_X_need : mOK m_X_need 1 := ⟨inT4 46 rfl rfl, inT1 1 (by decide +kernel) rfl, by decide +kernel, by decide +kernel, nle rfl⟩
theorem im_X_need : Cond.instanceMethod m_X_need.1 ∈ TB := inT4 44 (by decide +kernel) rfl
theorem se_X_need : Cond.selects m_X_need.1.cls m_X_need.1 m_X_need.1 ∈ TB := inT4 45 (by decide +kernel) rfl
def m_X_change : MI := (⟨"RowWalks", "change", "(III)I"⟩, prog_1_method_9_code, 4, (some .int))
theorem pl_X_change : plainFor m_X_change.1 = true := plainFor_of_name (by decide +kernel)
theorem mk_X_change : mOK m_X_change 3 := ⟨inT4 54 rfl rfl, inT1 1 (by decide +kernel) rfl, by decide +kernel, by decide +kernel, nle rfl⟩
theorem im_X_change : Cond.instanceMethod m_X_change.1 ∈ TB := inT4 52 (by decide +kernel) rfl
theorem se_X_change : Cond.selects m_X_change.1.cls m_X_change.1 m_X_change.1 ∈ TB := inT4 53 (by decide +kernel) rfl
def m_X_worth : MI := (⟨"RowWalks", "worth", "(II)I"⟩, prog_1_method_10_code, 3, (some .int))
theorem pl_X_worth : plainFor m_X_worth.1 = true := plainFor_of_name (by decide +kernel)
theorem mk_X_worth : mOK m_X_worth 2 := ⟨inT4 75 rfl rfl, inT1 1 (by decide +kernel) rfl, by decide +kernel, by decide +kernel, nle rfl⟩
theorem im_X_worth : Cond.instanceMethod m_X_worth.1 ∈ TB := inT4 73 (by decide +kernel) rfl
theorem se_X_worth : Cond.selects m_X_worth.1.cls m_X_worth.1 m_X_worth.1 ∈ TB := inT4 74 (by decide +kernel) rfl
def m_X_want : MI := (⟨"RowWalks", "want", "(II)I"⟩, prog_1_method_11_code, 3, (some .int))
theorem pl_X_want : plainFor m_X_want.1 = true := plainFor_of_name (by decide +kernel)
theorem mk_X_want : mOK m_X_want 2 := ⟨inT4 79 rfl rfl, inT1 1 (by decide +kernel) rfl, by decide +kernel, by decide +kernel, nle rfl⟩
theorem im_X_want : Cond.instanceMethod m_X_want.1 ∈ TB := inT4 77 (by decide +kernel) rfl
theorem se_X_want : Cond.selects m_X_want.1.cls m_X_want.1 m_X_want.1 ∈ TB := inT4 78 (by decide +kernel) rfl
def m_X_allow : MI := (⟨"RowWalks", "allow", "(I)I"⟩, prog_1_method_12_code, 2, (some .int))
theorem pl_X_allow : plainFor m_X_allow.1 = true := plainFor_of_name (by decide +kernel)
theorem mk_X_allow : mOK m_X_allow 1 := ⟨inT4 83 rfl rfl, inT1 1 (by decide +kernel) rfl, by decide +kernel, by decide +kernel, nle rfl⟩
theorem im_X_allow : Cond.instanceMethod m_X_allow.1 ∈ TB := inT4 81 (by decide +kernel) rfl
theorem se_X_allow : Cond.selects m_X_allow.1.cls m_X_allow.1 m_X_allow.1 ∈ TB := inT4 82 (by decide +kernel) rfl
def m_X_hold : MI := (⟨"RowWalks", "hold", "(II)I"⟩, prog_1_method_13_code, 4, (some .int))
theorem pl_X_hold : plainFor m_X_hold.1 = true := plainFor_of_name (by decide +kernel)
theorem mk_X_hold : mOK m_X_hold 2 := ⟨inT4 87 rfl rfl, inT1 1 (by decide +kernel) rfl, by decide +kernel, by decide +kernel, nle rfl⟩
theorem im_X_hold : Cond.instanceMethod m_X_hold.1 ∈ TB := inT4 85 (by decide +kernel) rfl
theorem se_X_hold : Cond.selects m_X_hold.1.cls m_X_hold.1 m_X_hold.1 ∈ TB := inT4 86 (by decide +kernel) rfl
def m_X_turn : MI := (⟨"RowWalks", "turn", "(IIII)I"⟩, prog_1_method_14_code, 6, (some .int))
theorem pl_X_turn : plainFor m_X_turn.1 = true := plainFor_of_name (by decide +kernel)
theorem mk_X_turn : mOK m_X_turn 4 := ⟨inT4 58 rfl rfl, inT1 1 (by decide +kernel) rfl, by decide +kernel, by decide +kernel, nle rfl⟩
theorem im_X_turn : Cond.instanceMethod m_X_turn.1 ∈ TB := inT4 57 (by decide +kernel) rfl
theorem se_X_turn : Cond.selects m_X_turn.1.cls m_X_turn.1 m_X_turn.1 ∈ TB := inTB 15 (by decide +kernel) rfl
def m_X_better : MI := (⟨"RowWalks", "better", "(I)I"⟩, prog_1_method_15_code, 2, (some .int))
theorem pl_X_better : plainFor m_X_better.1 = true := plainFor_of_name (by decide +kernel)
theorem mk_X_better : mOK m_X_better 1 := ⟨inT4 91 rfl rfl, inT1 1 (by decide +kernel) rfl, by decide +kernel, by decide +kernel, nle rfl⟩
theorem im_X_better : Cond.instanceMethod m_X_better.1 ∈ TB := inT4 89 (by decide +kernel) rfl
theorem se_X_better : Cond.selects m_X_better.1.cls m_X_better.1 m_X_better.1 ∈ TB := inT4 90 (by decide +kernel) rfl
def m_X_undo : MI := (⟨"RowWalks", "undo", "()Z"⟩, prog_1_method_16_code, 1, (some .boolean))
theorem pl_X_undo : plainFor m_X_undo.1 = true := plainFor_of_name (by decide +kernel)
theorem mk_X_undo : mOK m_X_undo 0 := ⟨inT4 162 rfl rfl, inT1 1 (by decide +kernel) rfl, by decide +kernel, by decide +kernel, nle rfl⟩
theorem im_X_undo : Cond.instanceMethod m_X_undo.1 ∈ TB := inT4 160 (by decide +kernel) rfl
theorem se_X_undo : Cond.selects m_X_undo.1.cls m_X_undo.1 m_X_undo.1 ∈ TB := inT4 161 (by decide +kernel) rfl
def m_X_redo : MI := (⟨"RowWalks", "redo", "()Z"⟩, prog_1_method_17_code, 1, (some .boolean))
theorem pl_X_redo : plainFor m_X_redo.1 = true := plainFor_of_name (by decide +kernel)
theorem mk_X_redo : mOK m_X_redo 0 := ⟨inT4 171 rfl rfl, inT1 1 (by decide +kernel) rfl, by decide +kernel, by decide +kernel, nle rfl⟩
theorem im_X_redo : Cond.instanceMethod m_X_redo.1 ∈ TB := inT4 169 (by decide +kernel) rfl
theorem se_X_redo : Cond.selects m_X_redo.1.cls m_X_redo.1 m_X_redo.1 ∈ TB := inT4 170 (by decide +kernel) rfl
def m_X_held : MI := (⟨"RowWalks", "held", "(I)I"⟩, prog_1_method_18_code, 2, (some .int))
theorem pl_X_held : plainFor m_X_held.1 = true := plainFor_of_name (by decide +kernel)
theorem mk_X_held : mOK m_X_held 1 := ⟨inT4 179 rfl rfl, inT1 1 (by decide +kernel) rfl, by decide +kernel, by decide +kernel, nle rfl⟩
theorem im_X_held : Cond.instanceMethod m_X_held.1 ∈ TB := inT4 177 (by decide +kernel) rfl
theorem se_X_held : Cond.selects m_X_held.1.cls m_X_held.1 m_X_held.1 ∈ TB := inT4 178 (by decide +kernel) rfl
def m_X_holding : MI := (⟨"RowWalks", "holding", "(I)I"⟩, prog_1_method_19_code, 2, (some .int))
theorem pl_X_holding : plainFor m_X_holding.1 = true := plainFor_of_name (by decide +kernel)
theorem mk_X_holding : mOK m_X_holding 1 := ⟨inT4 184 rfl rfl, inT1 1 (by decide +kernel) rfl, by decide +kernel, by decide +kernel, nle rfl⟩
theorem im_X_holding : Cond.instanceMethod m_X_holding.1 ∈ TB := inT4 182 (by decide +kernel) rfl
theorem se_X_holding : Cond.selects m_X_holding.1.cls m_X_holding.1 m_X_holding.1 ∈ TB := inT4 183 (by decide +kernel) rfl
def m_X_exchange : MI := (⟨"RowWalks", "exchange", "(II)I"⟩, prog_1_method_20_code, 3, (some .int))
theorem pl_X_exchange : plainFor m_X_exchange.1 = true := plainFor_of_name (by decide +kernel)
theorem mk_X_exchange : mOK m_X_exchange 2 := ⟨inT4 209 rfl rfl, inT1 1 (by decide +kernel) rfl, by decide +kernel, by decide +kernel, nle rfl⟩
theorem im_X_exchange : Cond.instanceMethod m_X_exchange.1 ∈ TB := inT4 207 (by decide +kernel) rfl
theorem se_X_exchange : Cond.selects m_X_exchange.1.cls m_X_exchange.1 m_X_exchange.1 ∈ TB := inT4 208 (by decide +kernel) rfl
def m_X_isLength : MI := (⟨"RowWalks", "isLength", "(I)Z"⟩, prog_1_method_21_code, 1, (some .boolean))
theorem pl_X_isLength : plainFor m_X_isLength.1 = true := plainFor_of_name (by decide +kernel)
theorem mk_X_isLength : mOK m_X_isLength 1 := ⟨inT4 220 rfl rfl, inT1 1 (by decide +kernel) rfl, by decide +kernel, by decide +kernel, nle rfl⟩
theorem st_X_isLength : Cond.static m_X_isLength.1 ∈ TB := inT4 219 (by decide +kernel) rfl
def m_X_isStrip : MI := (⟨"RowWalks", "isStrip", "(II)Z"⟩, prog_1_method_22_code, 2, (some .boolean))
theorem pl_X_isStrip : plainFor m_X_isStrip.1 = true := plainFor_of_name (by decide +kernel)
theorem mk_X_isStrip : mOK m_X_isStrip 2 := ⟨inT4 217 rfl rfl, inT1 1 (by decide +kernel) rfl, by decide +kernel, by decide +kernel, nle rfl⟩
theorem st_X_isStrip : Cond.static m_X_isStrip.1 ∈ TB := inT4 216 (by decide +kernel) rfl
def m_X_strip : MI := (⟨"RowWalks", "strip", "(III)I"⟩, prog_1_method_23_code, 4, (some .int))
theorem pl_X_strip : plainFor m_X_strip.1 = true := plainFor_of_name (by decide +kernel)
theorem mk_X_strip : mOK m_X_strip 3 := ⟨inT4 214 rfl rfl, inT1 1 (by decide +kernel) rfl, by decide +kernel, by decide +kernel, nle rfl⟩
theorem im_X_strip : Cond.instanceMethod m_X_strip.1 ∈ TB := inT4 212 (by decide +kernel) rfl
theorem se_X_strip : Cond.selects m_X_strip.1.cls m_X_strip.1 m_X_strip.1 ∈ TB := inT4 213 (by decide +kernel) rfl
def m_X_walks : MI := (⟨"RowWalks", "walks", "(II)J"⟩, prog_1_method_24_code, 3, (some .long))
theorem pl_X_walks : plainFor m_X_walks.1 = true := plainFor_of_name (by decide +kernel)
theorem mk_X_walks : mOK m_X_walks 2 := ⟨inT5 50 rfl rfl, inT1 1 (by decide +kernel) rfl, by decide +kernel, by decide +kernel, nle rfl⟩
theorem im_X_walks : Cond.instanceMethod m_X_walks.1 ∈ TB := inT5 48 (by decide +kernel) rfl
theorem se_X_walks : Cond.selects m_X_walks.1.cls m_X_walks.1 m_X_walks.1 ∈ TB := inT5 49 (by decide +kernel) rfl
def m_X_best : MI := (⟨"RowWalks", "best", "(II)I"⟩, prog_1_method_25_code, 3, (some .int))
theorem pl_X_best : plainFor m_X_best.1 = true := plainFor_of_name (by decide +kernel)
theorem mk_X_best : mOK m_X_best 2 := ⟨inT5 55 rfl rfl, inT1 1 (by decide +kernel) rfl, by decide +kernel, by decide +kernel, nle rfl⟩
theorem im_X_best : Cond.instanceMethod m_X_best.1 ∈ TB := inT5 53 (by decide +kernel) rfl
theorem se_X_best : Cond.selects m_X_best.1.cls m_X_best.1 m_X_best.1 ∈ TB := inT5 54 (by decide +kernel) rfl
def m_X_step : MI := (⟨"RowWalks", "step", "(III)I"⟩, prog_1_method_26_code, 4, (some .int))
theorem pl_X_step : plainFor m_X_step.1 = true := plainFor_of_name (by decide +kernel)
theorem mk_X_step : mOK m_X_step 3 := ⟨inT5 59 rfl rfl, inT1 1 (by decide +kernel) rfl, by decide +kernel, by decide +kernel, nle rfl⟩
theorem im_X_step : Cond.instanceMethod m_X_step.1 ∈ TB := inT5 57 (by decide +kernel) rfl
theorem se_X_step : Cond.selects m_X_step.1.cls m_X_step.1 m_X_step.1 ∈ TB := inT5 58 (by decide +kernel) rfl
def m_X_narrow : MI := (⟨"RowWalks", "narrow", "(I)I"⟩, prog_1_method_27_code, 3, (some .int))
theorem pl_X_narrow : plainFor m_X_narrow.1 = true := plainFor_of_name (by decide +kernel)
theorem mk_X_narrow : mOK m_X_narrow 1 := ⟨inT5 69 rfl rfl, inT1 1 (by decide +kernel) rfl, by decide +kernel, by decide +kernel, nle rfl⟩
theorem im_X_narrow : Cond.instanceMethod m_X_narrow.1 ∈ TB := inT5 67 (by decide +kernel) rfl
theorem se_X_narrow : Cond.selects m_X_narrow.1.cls m_X_narrow.1 m_X_narrow.1 ∈ TB := inT5 68 (by decide +kernel) rfl
def m_X_fewest : MI := (⟨"RowWalks", "fewest", "()I"⟩, prog_1_method_28_code, 2, (some .int))
theorem pl_X_fewest : plainFor m_X_fewest.1 = true := plainFor_of_name (by decide +kernel)
theorem mk_X_fewest : mOK m_X_fewest 0 := ⟨inT5 112 rfl rfl, inT1 1 (by decide +kernel) rfl, by decide +kernel, by decide +kernel, nle rfl⟩
theorem im_X_fewest : Cond.instanceMethod m_X_fewest.1 ∈ TB := inT5 110 (by decide +kernel) rfl
theorem se_X_fewest : Cond.selects m_X_fewest.1.cls m_X_fewest.1 m_X_fewest.1 ∈ TB := inT5 111 (by decide +kernel) rfl
def m_X_countPlans : MI := (⟨"RowWalks", "countPlans", "(II)I"⟩, prog_1_method_29_code, 4, (some .int))
theorem pl_X_countPlans : plainFor m_X_countPlans.1 = true := plainFor_of_name (by decide +kernel)
theorem mk_X_countPlans : mOK m_X_countPlans 2 := ⟨inT5 73 rfl rfl, inT1 1 (by decide +kernel) rfl, by decide +kernel, by decide +kernel, nle rfl⟩
theorem im_X_countPlans : Cond.instanceMethod m_X_countPlans.1 ∈ TB := inT5 72 (by decide +kernel) rfl
theorem se_X_countPlans : Cond.selects m_X_countPlans.1.cls m_X_countPlans.1 m_X_countPlans.1 ∈ TB := inTB 36 (by decide +kernel) rfl
def m_X_optimum : MI := (⟨"RowWalks", "optimum", "(I)I"⟩, prog_1_method_30_code, 2, (some .int))
theorem pl_X_optimum : plainFor m_X_optimum.1 = true := plainFor_of_name (by decide +kernel)
theorem mk_X_optimum : mOK m_X_optimum 1 := ⟨inT5 116 rfl rfl, inT1 1 (by decide +kernel) rfl, by decide +kernel, by decide +kernel, nle rfl⟩
theorem im_X_optimum : Cond.instanceMethod m_X_optimum.1 ∈ TB := inT5 114 (by decide +kernel) rfl
theorem se_X_optimum : Cond.selects m_X_optimum.1.cls m_X_optimum.1 m_X_optimum.1 ∈ TB := inT5 115 (by decide +kernel) rfl
def m_X_plan : MI := (⟨"RowWalks", "plan", "(I)I"⟩, prog_1_method_31_code, 2, (some .int))
theorem pl_X_plan : plainFor m_X_plan.1 = true := plainFor_of_name (by decide +kernel)
theorem mk_X_plan : mOK m_X_plan 1 := ⟨inT5 169 rfl rfl, inT1 1 (by decide +kernel) rfl, by decide +kernel, by decide +kernel, nle rfl⟩
theorem im_X_plan : Cond.instanceMethod m_X_plan.1 ∈ TB := inT5 167 (by decide +kernel) rfl
theorem se_X_plan : Cond.selects m_X_plan.1.cls m_X_plan.1 m_X_plan.1 ∈ TB := inT5 168 (by decide +kernel) rfl
def m_X_plans : MI := (⟨"RowWalks", "plans", "(I)I"⟩, prog_1_method_32_code, 2, (some .int))
theorem pl_X_plans : plainFor m_X_plans.1 = true := plainFor_of_name (by decide +kernel)
theorem mk_X_plans : mOK m_X_plans 1 := ⟨inT5 177 rfl rfl, inT1 1 (by decide +kernel) rfl, by decide +kernel, by decide +kernel, nle rfl⟩
theorem im_X_plans : Cond.instanceMethod m_X_plans.1 ∈ TB := inT5 175 (by decide +kernel) rfl
theorem se_X_plans : Cond.selects m_X_plans.1.cls m_X_plans.1 m_X_plans.1 ∈ TB := inT5 176 (by decide +kernel) rfl
def m_X_order : MI := (⟨"RowWalks", "order", "(I)I"⟩, prog_1_method_33_code, 2, (some .int))
theorem pl_X_order : plainFor m_X_order.1 = true := plainFor_of_name (by decide +kernel)
theorem mk_X_order : mOK m_X_order 1 := ⟨inT5 182 rfl rfl, inT1 1 (by decide +kernel) rfl, by decide +kernel, by decide +kernel, nle rfl⟩
theorem im_X_order : Cond.instanceMethod m_X_order.1 ∈ TB := inT5 180 (by decide +kernel) rfl
theorem se_X_order : Cond.selects m_X_order.1.cls m_X_order.1 m_X_order.1 ∈ TB := inT5 181 (by decide +kernel) rfl
def m_X_strays : MI := (⟨"RowWalks", "strays", "()I"⟩, prog_1_method_34_code, 1, (some .int))
theorem pl_X_strays : plainFor m_X_strays.1 = true := plainFor_of_name (by decide +kernel)
theorem mk_X_strays : mOK m_X_strays 0 := ⟨inT5 190 rfl rfl, inT1 1 (by decide +kernel) rfl, by decide +kernel, by decide +kernel, nle rfl⟩
theorem im_X_strays : Cond.instanceMethod m_X_strays.1 ∈ TB := inT5 188 (by decide +kernel) rfl
theorem se_X_strays : Cond.selects m_X_strays.1.cls m_X_strays.1 m_X_strays.1 ∈ TB := inT5 189 (by decide +kernel) rfl
def m_X_sorted : MI := (⟨"RowWalks", "sorted", "()I"⟩, prog_1_method_35_code, 1, (some .int))
theorem pl_X_sorted : plainFor m_X_sorted.1 = true := plainFor_of_name (by decide +kernel)
theorem mk_X_sorted : mOK m_X_sorted 0 := ⟨inT5 194 rfl rfl, inT1 1 (by decide +kernel) rfl, by decide +kernel, by decide +kernel, nle rfl⟩
theorem im_X_sorted : Cond.instanceMethod m_X_sorted.1 ∈ TB := inT5 192 (by decide +kernel) rfl
theorem se_X_sorted : Cond.selects m_X_sorted.1.cls m_X_sorted.1 m_X_sorted.1 ∈ TB := inT5 193 (by decide +kernel) rfl
def m_X_doubled : MI := (⟨"RowWalks", "doubled", "(III)I"⟩, prog_1_method_36_code, 4, (some .int))
theorem pl_X_doubled : plainFor m_X_doubled.1 = true := plainFor_of_name (by decide +kernel)
theorem mk_X_doubled : mOK m_X_doubled 3 := ⟨inT5 198 rfl rfl, inT1 1 (by decide +kernel) rfl, by decide +kernel, by decide +kernel, nle rfl⟩
theorem im_X_doubled : Cond.instanceMethod m_X_doubled.1 ∈ TB := inT5 196 (by decide +kernel) rfl
theorem se_X_doubled : Cond.selects m_X_doubled.1.cls m_X_doubled.1 m_X_doubled.1 ∈ TB := inT5 197 (by decide +kernel) rfl
def m_X_relaxed : MI := (⟨"RowWalks", "relaxed", "(I)I"⟩, prog_1_method_37_code, 2, (some .int))
theorem pl_X_relaxed : plainFor m_X_relaxed.1 = true := plainFor_of_name (by decide +kernel)
theorem mk_X_relaxed : mOK m_X_relaxed 1 := ⟨inT5 231 rfl rfl, inT1 1 (by decide +kernel) rfl, by decide +kernel, by decide +kernel, nle rfl⟩
theorem im_X_relaxed : Cond.instanceMethod m_X_relaxed.1 ∈ TB := inT5 229 (by decide +kernel) rfl
theorem se_X_relaxed : Cond.selects m_X_relaxed.1.cls m_X_relaxed.1 m_X_relaxed.1 ∈ TB := inT5 230 (by decide +kernel) rfl
def m_X_fraction : MI := (⟨"RowWalks", "fraction", "(II)I"⟩, prog_1_method_38_code, 3, (some .int))
theorem pl_X_fraction : plainFor m_X_fraction.1 = true := plainFor_of_name (by decide +kernel)
theorem mk_X_fraction : mOK m_X_fraction 2 := ⟨inT6 45 rfl rfl, inT1 1 (by decide +kernel) rfl, by decide +kernel, by decide +kernel, nle rfl⟩
theorem im_X_fraction : Cond.instanceMethod m_X_fraction.1 ∈ TB := inT6 43 (by decide +kernel) rfl
theorem se_X_fraction : Cond.selects m_X_fraction.1.cls m_X_fraction.1 m_X_fraction.1 ∈ TB := inT6 44 (by decide +kernel) rfl
def m_X_apart : MI := (⟨"RowWalks", "apart", "(I)I"⟩, prog_1_method_39_code, 5, (some .int))
theorem pl_X_apart : plainFor m_X_apart.1 = true := plainFor_of_name (by decide +kernel)
theorem mk_X_apart : mOK m_X_apart 1 := ⟨inT6 57 rfl rfl, inT1 1 (by decide +kernel) rfl, by decide +kernel, by decide +kernel, nle rfl⟩
theorem im_X_apart : Cond.instanceMethod m_X_apart.1 ∈ TB := inT6 55 (by decide +kernel) rfl
theorem se_X_apart : Cond.selects m_X_apart.1.cls m_X_apart.1 m_X_apart.1 ∈ TB := inT6 56 (by decide +kernel) rfl
def m_X_part : MI := (⟨"RowWalks", "part", "(JJI)I"⟩, prog_1_method_40_code, 7, (some .int))
theorem pl_X_part : plainFor m_X_part.1 = true := plainFor_of_name (by decide +kernel)
theorem mk_X_part : mOK m_X_part 3 := ⟨inT6 35 rfl rfl, inT1 1 (by decide +kernel) rfl, by decide +kernel, by decide +kernel, nle rfl⟩
theorem st_X_part : Cond.static m_X_part.1 ∈ TB := inT6 34 (by decide +kernel) rfl
def m_X_commonDivisor : MI := (⟨"RowWalks", "commonDivisor", "(JJ)J"⟩, prog_1_method_41_code, 7, (some .long))
theorem pl_X_commonDivisor : plainFor m_X_commonDivisor.1 = true := plainFor_of_name (by decide +kernel)
theorem mk_X_commonDivisor : mOK m_X_commonDivisor 2 := ⟨inT6 41 rfl rfl, inT1 1 (by decide +kernel) rfl, by decide +kernel, by decide +kernel, nle rfl⟩
theorem st_X_commonDivisor : Cond.static m_X_commonDivisor.1 ∈ TB := inT6 40 (by decide +kernel) rfl
def m_X_corners : MI := (⟨"RowWalks", "corners", "()I"⟩, prog_1_method_42_code, 1, (some .int))
theorem pl_X_corners : plainFor m_X_corners.1 = true := plainFor_of_name (by decide +kernel)
theorem mk_X_corners : mOK m_X_corners 0 := ⟨inT6 61 rfl rfl, inT1 1 (by decide +kernel) rfl, by decide +kernel, by decide +kernel, nle rfl⟩
theorem im_X_corners : Cond.instanceMethod m_X_corners.1 ∈ TB := inT6 59 (by decide +kernel) rfl
theorem se_X_corners : Cond.selects m_X_corners.1.cls m_X_corners.1 m_X_corners.1 ∈ TB := inT6 60 (by decide +kernel) rfl
def m_X_drawn : MI := (⟨"RowWalks", "drawn", "(III)I"⟩, prog_1_method_43_code, 5, (some .int))
theorem pl_X_drawn : plainFor m_X_drawn.1 = true := plainFor_of_name (by decide +kernel)
theorem mk_X_drawn : mOK m_X_drawn 3 := ⟨inT6 65 rfl rfl, inT1 1 (by decide +kernel) rfl, by decide +kernel, by decide +kernel, nle rfl⟩
theorem im_X_drawn : Cond.instanceMethod m_X_drawn.1 ∈ TB := inT6 63 (by decide +kernel) rfl
theorem se_X_drawn : Cond.selects m_X_drawn.1.cls m_X_drawn.1 m_X_drawn.1 ∈ TB := inT6 64 (by decide +kernel) rfl
def m_X_draw : MI := (⟨"RowWalks", "draw", "(I)I"⟩, prog_1_method_44_code, 1, (some .int))
theorem pl_X_draw : plainFor m_X_draw.1 = true := plainFor_of_name (by decide +kernel)
theorem mk_X_draw : mOK m_X_draw 1 := ⟨inT6 73 rfl rfl, inT1 1 (by decide +kernel) rfl, by decide +kernel, by decide +kernel, nle rfl⟩
theorem st_X_draw : Cond.static m_X_draw.1 ∈ TB := inT6 72 (by decide +kernel) rfl
def m_X_drawnStray : MI := (⟨"RowWalks", "drawnStray", "(II)I"⟩, prog_1_method_45_code, 5, (some .int))
theorem pl_X_drawnStray : plainFor m_X_drawnStray.1 = true := plainFor_of_name (by decide +kernel)
theorem mk_X_drawnStray : mOK m_X_drawnStray 2 := ⟨inT6 69 rfl rfl, inT1 1 (by decide +kernel) rfl, by decide +kernel, by decide +kernel, nle rfl⟩
theorem im_X_drawnStray : Cond.instanceMethod m_X_drawnStray.1 ∈ TB := inT6 68 (by decide +kernel) rfl
theorem se_X_drawnStray : Cond.selects m_X_drawnStray.1.cls m_X_drawnStray.1 m_X_drawnStray.1 ∈ TB := inTB 60 (by decide +kernel) rfl
def m_X_drawSums : MI := (⟨"RowWalks", "drawSums", "(II)I"⟩, prog_1_method_46_code, 6, (some .int))
theorem pl_X_drawSums : plainFor m_X_drawSums.1 = true := plainFor_of_name (by decide +kernel)
theorem mk_X_drawSums : mOK m_X_drawSums 2 := ⟨inT6 80 rfl rfl, inT1 1 (by decide +kernel) rfl, by decide +kernel, by decide +kernel, nle rfl⟩
theorem im_X_drawSums : Cond.instanceMethod m_X_drawSums.1 ∈ TB := inT6 79 (by decide +kernel) rfl
theorem se_X_drawSums : Cond.selects m_X_drawSums.1.cls m_X_drawSums.1 m_X_drawSums.1 ∈ TB := inTB 61 (by decide +kernel) rfl
def m_X_chance : MI := (⟨"RowWalks", "chance", "(II)I"⟩, prog_1_method_47_code, 5, (some .int))
theorem pl_X_chance : plainFor m_X_chance.1 = true := plainFor_of_name (by decide +kernel)
theorem mk_X_chance : mOK m_X_chance 2 := ⟨inT6 84 rfl rfl, inT1 1 (by decide +kernel) rfl, by decide +kernel, by decide +kernel, nle rfl⟩
theorem im_X_chance : Cond.instanceMethod m_X_chance.1 ∈ TB := inT6 82 (by decide +kernel) rfl
theorem se_X_chance : Cond.selects m_X_chance.1.cls m_X_chance.1 m_X_chance.1 ∈ TB := inT6 83 (by decide +kernel) rfl
def m_X_seen : MI := (⟨"RowWalks", "seen", "(IIIIZ)I"⟩, prog_1_method_48_code, 6, (some .int))
theorem pl_X_seen : plainFor m_X_seen.1 = true := plainFor_of_name (by decide +kernel)
theorem mk_X_seen : mOK m_X_seen 5 := ⟨inT6 88 rfl rfl, inT1 1 (by decide +kernel) rfl, by decide +kernel, by decide +kernel, nle rfl⟩
theorem im_X_seen : Cond.instanceMethod m_X_seen.1 ∈ TB := inT6 86 (by decide +kernel) rfl
theorem se_X_seen : Cond.selects m_X_seen.1.cls m_X_seen.1 m_X_seen.1 ∈ TB := inT6 87 (by decide +kernel) rfl
def m_X_isSeenLength : MI := (⟨"RowWalks", "isSeenLength", "(I)Z"⟩, prog_1_method_49_code, 1, (some .boolean))
theorem pl_X_isSeenLength : plainFor m_X_isSeenLength.1 = true := plainFor_of_name (by decide +kernel)
theorem mk_X_isSeenLength : mOK m_X_isSeenLength 1 := ⟨inT6 91 rfl rfl, inT1 1 (by decide +kernel) rfl, by decide +kernel, by decide +kernel, nle rfl⟩
theorem st_X_isSeenLength : Cond.static m_X_isSeenLength.1 ∈ TB := inT6 90 (by decide +kernel) rfl
def m_X_isSeenSum : MI := (⟨"RowWalks", "isSeenSum", "(I)Z"⟩, prog_1_method_50_code, 1, (some .boolean))
theorem pl_X_isSeenSum : plainFor m_X_isSeenSum.1 = true := plainFor_of_name (by decide +kernel)
theorem mk_X_isSeenSum : mOK m_X_isSeenSum 1 := ⟨inT6 94 rfl rfl, inT1 1 (by decide +kernel) rfl, by decide +kernel, by decide +kernel, nle rfl⟩
theorem st_X_isSeenSum : Cond.static m_X_isSeenSum.1 ∈ TB := inT6 93 (by decide +kernel) rfl
def m_X_untell : MI := (⟨"RowWalks", "untell", "(I)Z"⟩, prog_1_method_51_code, 2, (some .boolean))
theorem pl_X_untell : plainFor m_X_untell.1 = true := plainFor_of_name (by decide +kernel)
theorem mk_X_untell : mOK m_X_untell 1 := ⟨inT6 103 rfl rfl, inT1 1 (by decide +kernel) rfl, by decide +kernel, by decide +kernel, nle rfl⟩
theorem im_X_untell : Cond.instanceMethod m_X_untell.1 ∈ TB := inT6 101 (by decide +kernel) rfl
theorem se_X_untell : Cond.selects m_X_untell.1.cls m_X_untell.1 m_X_untell.1 ∈ TB := inT6 102 (by decide +kernel) rfl
def m_X_later : MI := (⟨"RowWalks", "later", "(I)I"⟩, prog_1_method_52_code, 2, (some .int))
theorem pl_X_later : plainFor m_X_later.1 = true := plainFor_of_name (by decide +kernel)
theorem mk_X_later : mOK m_X_later 1 := ⟨inT6 111 rfl rfl, inT1 1 (by decide +kernel) rfl, by decide +kernel, by decide +kernel, nle rfl⟩
theorem im_X_later : Cond.instanceMethod m_X_later.1 ∈ TB := inT6 109 (by decide +kernel) rfl
theorem se_X_later : Cond.selects m_X_later.1.cls m_X_later.1 m_X_later.1 ∈ TB := inT6 110 (by decide +kernel) rfl
def m_X_fits : MI := (⟨"RowWalks", "fits", "(I)I"⟩, prog_1_method_53_code, 2, (some .int))
theorem pl_X_fits : plainFor m_X_fits.1 = true := plainFor_of_name (by decide +kernel)
theorem mk_X_fits : mOK m_X_fits 1 := ⟨inT6 116 rfl rfl, inT1 1 (by decide +kernel) rfl, by decide +kernel, by decide +kernel, nle rfl⟩
theorem im_X_fits : Cond.instanceMethod m_X_fits.1 ∈ TB := inT6 114 (by decide +kernel) rfl
theorem se_X_fits : Cond.selects m_X_fits.1.cls m_X_fits.1 m_X_fits.1 ∈ TB := inT6 115 (by decide +kernel) rfl
def m_X_fit : MI := (⟨"RowWalks", "fit", "(II)I"⟩, prog_1_method_54_code, 6, (some .int))
theorem pl_X_fit : plainFor m_X_fit.1 = true := plainFor_of_name (by decide +kernel)
theorem mk_X_fit : mOK m_X_fit 2 := ⟨inT6 129 rfl rfl, inT1 1 (by decide +kernel) rfl, by decide +kernel, by decide +kernel, nle rfl⟩
theorem im_X_fit : Cond.instanceMethod m_X_fit.1 ∈ TB := inT6 127 (by decide +kernel) rfl
theorem se_X_fit : Cond.selects m_X_fit.1.cls m_X_fit.1 m_X_fit.1 ∈ TB := inT6 128 (by decide +kernel) rfl
def m_X_ask : MI := (⟨"RowWalks", "ask", "(III)I"⟩, prog_1_method_55_code, 4, (some .int))
theorem pl_X_ask : plainFor m_X_ask.1 = true := plainFor_of_name (by decide +kernel)
theorem mk_X_ask : mOK m_X_ask 3 := ⟨inT6 133 rfl rfl, inT1 1 (by decide +kernel) rfl, by decide +kernel, by decide +kernel, nle rfl⟩
theorem im_X_ask : Cond.instanceMethod m_X_ask.1 ∈ TB := inT6 131 (by decide +kernel) rfl
theorem se_X_ask : Cond.selects m_X_ask.1.cls m_X_ask.1 m_X_ask.1 ∈ TB := inT6 132 (by decide +kernel) rfl
def m_X_image : MI := (⟨"RowWalks", "image", "(I)I"⟩, prog_1_method_56_code, 2, (some .int))
theorem pl_X_image : plainFor m_X_image.1 = true := plainFor_of_name (by decide +kernel)
theorem mk_X_image : mOK m_X_image 1 := ⟨inT6 153 rfl rfl, inT1 1 (by decide +kernel) rfl, by decide +kernel, by decide +kernel, nle rfl⟩
theorem im_X_image : Cond.instanceMethod m_X_image.1 ∈ TB := inT6 151 (by decide +kernel) rfl
theorem se_X_image : Cond.selects m_X_image.1.cls m_X_image.1 m_X_image.1 ∈ TB := inT6 152 (by decide +kernel) rfl
def m_X_back : MI := (⟨"RowWalks", "back", "(I)I"⟩, prog_1_method_57_code, 2, (some .int))
theorem pl_X_back : plainFor m_X_back.1 = true := plainFor_of_name (by decide +kernel)
theorem mk_X_back : mOK m_X_back 1 := ⟨inT6 157 rfl rfl, inT1 1 (by decide +kernel) rfl, by decide +kernel, by decide +kernel, nle rfl⟩
theorem im_X_back : Cond.instanceMethod m_X_back.1 ∈ TB := inT6 155 (by decide +kernel) rfl
theorem se_X_back : Cond.selects m_X_back.1.cls m_X_back.1 m_X_back.1 ∈ TB := inT6 156 (by decide +kernel) rfl
def m_X_about : MI := (⟨"RowWalks", "about", "(I)I"⟩, prog_1_method_58_code, 2, (some .int))
theorem pl_X_about : plainFor m_X_about.1 = true := plainFor_of_name (by decide +kernel)
theorem mk_X_about : mOK m_X_about 1 := ⟨inT6 161 rfl rfl, inT1 1 (by decide +kernel) rfl, by decide +kernel, by decide +kernel, nle rfl⟩
theorem im_X_about : Cond.instanceMethod m_X_about.1 ∈ TB := inT6 159 (by decide +kernel) rfl
theorem se_X_about : Cond.selects m_X_about.1.cls m_X_about.1 m_X_about.1 ∈ TB := inT6 160 (by decide +kernel) rfl
def m_M_init : MI := (⟨"RowWalksModel", "<init>", "()V"⟩, prog_14_method_1_code, 1, none)
theorem pl_M_init : plainFor m_M_init.1 = true := plainFor_of_name (by decide +kernel)
theorem mk_M_init : mOK m_M_init 0 := ⟨inT6 171 rfl rfl, inT1 13 (by decide +kernel) rfl, by decide +kernel, by decide +kernel, nle rfl⟩
theorem im_M_init : Cond.instanceMethod m_M_init.1 ∈ TB := inT6 170 (by decide +kernel) rfl
def m_M_isIn : MI := (⟨"RowWalksModel", "isIn", "(III)Z"⟩, prog_14_method_2_code, 3, (some .boolean))
theorem pl_M_isIn : plainFor m_M_isIn.1 = true := plainFor_of_name (by decide +kernel)
theorem mk_M_isIn : mOK m_M_isIn 3 := ⟨inT7 195 rfl rfl, inT1 13 (by decide +kernel) rfl, by decide +kernel, by decide +kernel, nle rfl⟩
theorem st_M_isIn : Cond.static m_M_isIn.1 ∈ TB := inT7 194 (by decide +kernel) rfl
def m_M_greater : MI := (⟨"RowWalksModel", "greater", "(II)I"⟩, prog_14_method_3_code, 2, (some .int))
theorem pl_M_greater : plainFor m_M_greater.1 = true := plainFor_of_name (by decide +kernel)
theorem mk_M_greater : mOK m_M_greater 2 := ⟨inT8 196 rfl rfl, inT1 13 (by decide +kernel) rfl, by decide +kernel, by decide +kernel, nle rfl⟩
theorem st_M_greater : Cond.static m_M_greater.1 ∈ TB := inT8 195 (by decide +kernel) rfl
def m_M_lesser : MI := (⟨"RowWalksModel", "lesser", "(II)I"⟩, prog_14_method_4_code, 2, (some .int))
theorem pl_M_lesser : plainFor m_M_lesser.1 = true := plainFor_of_name (by decide +kernel)
theorem mk_M_lesser : mOK m_M_lesser 2 := ⟨inT8 185 rfl rfl, inT1 13 (by decide +kernel) rfl, by decide +kernel, by decide +kernel, nle rfl⟩
theorem st_M_lesser : Cond.static m_M_lesser.1 ∈ TB := inT8 184 (by decide +kernel) rfl
def m_M_truth : MI := (⟨"RowWalksModel", "truth", "(Z)I"⟩, prog_14_method_5_code, 1, (some .int))
theorem pl_M_truth : plainFor m_M_truth.1 = true := plainFor_of_name (by decide +kernel)
theorem mk_M_truth : mOK m_M_truth 1 := ⟨inT8 145 rfl rfl, inT1 13 (by decide +kernel) rfl, by decide +kernel, by decide +kernel, nle rfl⟩
theorem st_M_truth : Cond.static m_M_truth.1 ∈ TB := inT8 144 (by decide +kernel) rfl
def m_M_plus : MI := (⟨"RowWalksModel", "plus", "(I)I"⟩, prog_14_method_6_code, 1, (some .int))
theorem pl_M_plus : plainFor m_M_plus.1 = true := plainFor_of_name (by decide +kernel)
theorem mk_M_plus : mOK m_M_plus 1 := ⟨inT8 122 rfl rfl, inT1 13 (by decide +kernel) rfl, by decide +kernel, by decide +kernel, nle rfl⟩
theorem st_M_plus : Cond.static m_M_plus.1 ∈ TB := inT8 121 (by decide +kernel) rfl
def m_M_feed : MI := (⟨"RowWalksModel", "feed", "(IIIII)I"⟩, prog_14_method_7_code, 6, (some .int))
theorem pl_M_feed : plainFor m_M_feed.1 = true := plainFor_of_name (by decide +kernel)
theorem mk_M_feed : mOK m_M_feed 5 := ⟨inT7 184 rfl rfl, inT1 13 (by decide +kernel) rfl, by decide +kernel, by decide +kernel, nle rfl⟩
theorem im_M_feed : Cond.instanceMethod m_M_feed.1 ∈ TB := inT7 182 (by decide +kernel) rfl
theorem se_M_feed : Cond.selects m_M_feed.1.cls m_M_feed.1 m_M_feed.1 ∈ TB := inT7 183 (by decide +kernel) rfl
def m_M_four : MI := (⟨"RowWalksModel", "four", "(I)V"⟩, prog_14_method_8_code, 3, none)
theorem pl_M_four : plainFor m_M_four.1 = true := plainFor_of_name (by decide +kernel)
theorem mk_M_four : mOK m_M_four 1 := ⟨inT7 188 rfl rfl, inT1 13 (by decide +kernel) rfl, by decide +kernel, by decide +kernel, nle rfl⟩
theorem im_M_four : Cond.instanceMethod m_M_four.1 ∈ TB := inT7 187 (by decide +kernel) rfl
theorem se_M_four : Cond.selects m_M_four.1.cls m_M_four.1 m_M_four.1 ∈ TB := inTB 66 (by decide +kernel) rfl
def m_M_end : MI := (⟨"RowWalksModel", "end", "(I)I"⟩, prog_14_method_9_code, 2, (some .int))
theorem pl_M_end : plainFor m_M_end.1 = true := plainFor_of_name (by decide +kernel)
theorem mk_M_end : mOK m_M_end 1 := ⟨inT7 192 rfl rfl, inT1 13 (by decide +kernel) rfl, by decide +kernel, by decide +kernel, nle rfl⟩
theorem im_M_end : Cond.instanceMethod m_M_end.1 ∈ TB := inT7 190 (by decide +kernel) rfl
theorem se_M_end : Cond.selects m_M_end.1.cls m_M_end.1 m_M_end.1 ∈ TB := inT7 191 (by decide +kernel) rfl
def m_M_here : MI := (⟨"RowWalksModel", "here", "(I)I"⟩, prog_14_method_10_code, 2, (some .int))
theorem pl_M_here : plainFor m_M_here.1 = true := plainFor_of_name (by decide +kernel)
theorem mk_M_here : mOK m_M_here 1 := ⟨inT7 207 rfl rfl, inT1 13 (by decide +kernel) rfl, by decide +kernel, by decide +kernel, nle rfl⟩
theorem im_M_here : Cond.instanceMethod m_M_here.1 ∈ TB := inT7 206 (by decide +kernel) rfl
theorem se_M_here : Cond.selects m_M_here.1.cls m_M_here.1 m_M_here.1 ∈ TB := inTB 68 (by decide +kernel) rfl
def m_M_isLetter : MI := (⟨"RowWalksModel", "isLetter", "(I)Z"⟩, prog_14_method_11_code, 1, (some .boolean))
theorem pl_M_isLetter : plainFor m_M_isLetter.1 = true := plainFor_of_name (by decide +kernel)
theorem mk_M_isLetter : mOK m_M_isLetter 1 := ⟨inT7 210 rfl rfl, inT1 13 (by decide +kernel) rfl, by decide +kernel, by decide +kernel, nle rfl⟩
theorem st_M_isLetter : Cond.static m_M_isLetter.1 ∈ TB := inT7 209 (by decide +kernel) rfl
def m_M_isDigit : MI := (⟨"RowWalksModel", "isDigit", "(I)Z"⟩, prog_14_method_12_code, 1, (some .boolean))
theorem pl_M_isDigit : plainFor m_M_isDigit.1 = true := plainFor_of_name (by decide +kernel)
theorem mk_M_isDigit : mOK m_M_isDigit 1 := ⟨inT7 213 rfl rfl, inT1 13 (by decide +kernel) rfl, by decide +kernel, by decide +kernel, nle rfl⟩
theorem st_M_isDigit : Cond.static m_M_isDigit.1 ∈ TB := inT7 212 (by decide +kernel) rfl
def m_M_goOn : MI := (⟨"RowWalksModel", "goOn", "()V"⟩, prog_14_method_13_code, 2, none)
theorem pl_M_goOn : plainFor m_M_goOn.1 = true := plainFor_of_name (by decide +kernel)
theorem mk_M_goOn : mOK m_M_goOn 0 := ⟨inT7 203 rfl rfl, inT1 13 (by decide +kernel) rfl, by decide +kernel, by decide +kernel, nle rfl⟩
theorem im_M_goOn : Cond.instanceMethod m_M_goOn.1 ∈ TB := inT7 202 (by decide +kernel) rfl
theorem se_M_goOn : Cond.selects m_M_goOn.1.cls m_M_goOn.1 m_M_goOn.1 ∈ TB := inTB 67 (by decide +kernel) rfl
def m_M_wrong : MI := (⟨"RowWalksModel", "wrong", "(I)V"⟩, prog_14_method_14_code, 2, none)
theorem pl_M_wrong : plainFor m_M_wrong.1 = true := plainFor_of_name (by decide +kernel)
theorem mk_M_wrong : mOK m_M_wrong 1 := ⟨inT7 234 rfl rfl, inT1 13 (by decide +kernel) rfl, by decide +kernel, by decide +kernel, nle rfl⟩
theorem im_M_wrong : Cond.instanceMethod m_M_wrong.1 ∈ TB := inT7 233 (by decide +kernel) rfl
theorem se_M_wrong : Cond.selects m_M_wrong.1.cls m_M_wrong.1 m_M_wrong.1 ∈ TB := inTB 73 (by decide +kernel) rfl
def m_M_isGood : MI := (⟨"RowWalksModel", "isGood", "()Z"⟩, prog_14_method_15_code, 1, (some .boolean))
theorem pl_M_isGood : plainFor m_M_isGood.1 = true := plainFor_of_name (by decide +kernel)
theorem mk_M_isGood : mOK m_M_isGood 0 := ⟨inT7 217 rfl rfl, inT1 13 (by decide +kernel) rfl, by decide +kernel, by decide +kernel, nle rfl⟩
theorem im_M_isGood : Cond.instanceMethod m_M_isGood.1 ∈ TB := inT7 216 (by decide +kernel) rfl
theorem se_M_isGood : Cond.selects m_M_isGood.1.cls m_M_isGood.1 m_M_isGood.1 ∈ TB := inTB 69 (by decide +kernel) rfl
def m_M_isWord : MI := (⟨"RowWalksModel", "isWord", "(J)Z"⟩, prog_14_method_16_code, 3, (some .boolean))
theorem pl_M_isWord : plainFor m_M_isWord.1 = true := plainFor_of_name (by decide +kernel)
theorem mk_M_isWord : mOK m_M_isWord 1 := ⟨inT7 226 rfl rfl, inT1 13 (by decide +kernel) rfl, by decide +kernel, by decide +kernel, nle rfl⟩
theorem im_M_isWord : Cond.instanceMethod m_M_isWord.1 ∈ TB := inT7 225 (by decide +kernel) rfl
theorem se_M_isWord : Cond.selects m_M_isWord.1.cls m_M_isWord.1 m_M_isWord.1 ∈ TB := inTB 71 (by decide +kernel) rfl
def m_M_numberIn : MI := (⟨"RowWalksModel", "numberIn", "(II)I"⟩, prog_14_method_17_code, 4, (some .int))
theorem pl_M_numberIn : plainFor m_M_numberIn.1 = true := plainFor_of_name (by decide +kernel)
theorem mk_M_numberIn : mOK m_M_numberIn 2 := ⟨inT7 238 rfl rfl, inT1 13 (by decide +kernel) rfl, by decide +kernel, by decide +kernel, nle rfl⟩
theorem im_M_numberIn : Cond.instanceMethod m_M_numberIn.1 ∈ TB := inT7 237 (by decide +kernel) rfl
theorem se_M_numberIn : Cond.selects m_M_numberIn.1.cls m_M_numberIn.1 m_M_numberIn.1 ∈ TB := inTB 74 (by decide +kernel) rfl
def m_M_signed : MI := (⟨"RowWalksModel", "signed", "(I)I"⟩, prog_14_method_18_code, 4, (some .int))
theorem pl_M_signed : plainFor m_M_signed.1 = true := plainFor_of_name (by decide +kernel)
theorem mk_M_signed : mOK m_M_signed 1 := ⟨inT8 10 rfl rfl, inT1 13 (by decide +kernel) rfl, by decide +kernel, by decide +kernel, nle rfl⟩
theorem im_M_signed : Cond.instanceMethod m_M_signed.1 ∈ TB := inT8 9 (by decide +kernel) rfl
theorem se_M_signed : Cond.selects m_M_signed.1.cls m_M_signed.1 m_M_signed.1 ∈ TB := inTB 76 (by decide +kernel) rfl
def m_M_begins : MI := (⟨"RowWalksModel", "begins", "()V"⟩, prog_14_method_19_code, 2, none)
theorem pl_M_begins : plainFor m_M_begins.1 = true := plainFor_of_name (by decide +kernel)
theorem mk_M_begins : mOK m_M_begins 0 := ⟨inT6 178 rfl rfl, inT1 13 (by decide +kernel) rfl, by decide +kernel, by decide +kernel, nle rfl⟩
theorem im_M_begins : Cond.instanceMethod m_M_begins.1 ∈ TB := inT6 177 (by decide +kernel) rfl
theorem se_M_begins : Cond.selects m_M_begins.1.cls m_M_begins.1 m_M_begins.1 ∈ TB := inTB 64 (by decide +kernel) rfl
def m_M_rowsLine : MI := (⟨"RowWalksModel", "rowsLine", "()V"⟩, prog_14_method_20_code, 1, none)
theorem pl_M_rowsLine : plainFor m_M_rowsLine.1 = true := plainFor_of_name (by decide +kernel)
theorem mk_M_rowsLine : mOK m_M_rowsLine 0 := ⟨inT7 230 rfl rfl, inT1 13 (by decide +kernel) rfl, by decide +kernel, by decide +kernel, nle rfl⟩
theorem im_M_rowsLine : Cond.instanceMethod m_M_rowsLine.1 ∈ TB := inT7 229 (by decide +kernel) rfl
theorem se_M_rowsLine : Cond.selects m_M_rowsLine.1.cls m_M_rowsLine.1 m_M_rowsLine.1 ∈ TB := inTB 72 (by decide +kernel) rfl
def m_M_columnLine : MI := (⟨"RowWalksModel", "columnLine", "()V"⟩, prog_14_method_21_code, 3, none)
theorem pl_M_columnLine : plainFor m_M_columnLine.1 = true := plainFor_of_name (by decide +kernel)
theorem mk_M_columnLine : mOK m_M_columnLine 0 := ⟨inT8 3 rfl rfl, inT1 13 (by decide +kernel) rfl, by decide +kernel, by decide +kernel, nle rfl⟩
theorem im_M_columnLine : Cond.instanceMethod m_M_columnLine.1 ∈ TB := inT8 2 (by decide +kernel) rfl
theorem se_M_columnLine : Cond.selects m_M_columnLine.1.cls m_M_columnLine.1 m_M_columnLine.1 ∈ TB := inTB 75 (by decide +kernel) rfl
def m_M_needLine : MI := (⟨"RowWalksModel", "needLine", "()V"⟩, prog_14_method_22_code, 2, none)
theorem pl_M_needLine : plainFor m_M_needLine.1 = true := plainFor_of_name (by decide +kernel)
theorem mk_M_needLine : mOK m_M_needLine 0 := ⟨inT8 14 rfl rfl, inT1 13 (by decide +kernel) rfl, by decide +kernel, by decide +kernel, nle rfl⟩
theorem im_M_needLine : Cond.instanceMethod m_M_needLine.1 ∈ TB := inT8 13 (by decide +kernel) rfl
theorem se_M_needLine : Cond.selects m_M_needLine.1.cls m_M_needLine.1 m_M_needLine.1 ∈ TB := inTB 77 (by decide +kernel) rfl
def m_M_stepsLine : MI := (⟨"RowWalksModel", "stepsLine", "()V"⟩, prog_14_method_23_code, 1, none)
theorem pl_M_stepsLine : plainFor m_M_stepsLine.1 = true := plainFor_of_name (by decide +kernel)
theorem mk_M_stepsLine : mOK m_M_stepsLine 0 := ⟨inT8 18 rfl rfl, inT1 13 (by decide +kernel) rfl, by decide +kernel, by decide +kernel, nle rfl⟩
theorem im_M_stepsLine : Cond.instanceMethod m_M_stepsLine.1 ∈ TB := inT8 17 (by decide +kernel) rfl
theorem se_M_stepsLine : Cond.selects m_M_stepsLine.1.cls m_M_stepsLine.1 m_M_stepsLine.1 ∈ TB := inTB 78 (by decide +kernel) rfl
def m_M_line : MI := (⟨"RowWalksModel", "line", "()V"⟩, prog_14_method_24_code, 1, none)
theorem pl_M_line : plainFor m_M_line.1 = true := plainFor_of_name (by decide +kernel)
theorem mk_M_line : mOK m_M_line 0 := ⟨inT7 221 rfl rfl, inT1 13 (by decide +kernel) rfl, by decide +kernel, by decide +kernel, nle rfl⟩
theorem im_M_line : Cond.instanceMethod m_M_line.1 ∈ TB := inT7 220 (by decide +kernel) rfl
theorem se_M_line : Cond.selects m_M_line.1.cls m_M_line.1 m_M_line.1 ∈ TB := inTB 70 (by decide +kernel) rfl
def m_M_takesOver : MI := (⟨"RowWalksModel", "takesOver", "()V"⟩, prog_14_method_25_code, 2, none)
theorem pl_M_takesOver : plainFor m_M_takesOver.1 = true := plainFor_of_name (by decide +kernel)
theorem mk_M_takesOver : mOK m_M_takesOver 0 := ⟨inT6 182 rfl rfl, inT1 13 (by decide +kernel) rfl, by decide +kernel, by decide +kernel, nle rfl⟩
theorem im_M_takesOver : Cond.instanceMethod m_M_takesOver.1 ∈ TB := inT6 181 (by decide +kernel) rfl
theorem se_M_takesOver : Cond.selects m_M_takesOver.1.cls m_M_takesOver.1 m_M_takesOver.1 ∈ TB := inTB 65 (by decide +kernel) rfl
def m_M_program : MI := (⟨"RowWalksModel", "program", "()I"⟩, prog_14_method_26_code, 1, (some .int))
theorem pl_M_program : plainFor m_M_program.1 = true := plainFor_of_name (by decide +kernel)
theorem mk_M_program : mOK m_M_program 0 := ⟨inT7 199 rfl rfl, inT1 13 (by decide +kernel) rfl, by decide +kernel, by decide +kernel, nle rfl⟩
theorem im_M_program : Cond.instanceMethod m_M_program.1 ∈ TB := inT7 197 (by decide +kernel) rfl
theorem se_M_program : Cond.selects m_M_program.1.cls m_M_program.1 m_M_program.1 ∈ TB := inT7 198 (by decide +kernel) rfl
def m_M_fault : MI := (⟨"RowWalksModel", "fault", "(I)I"⟩, prog_14_method_27_code, 2, (some .int))
theorem pl_M_fault : plainFor m_M_fault.1 = true := plainFor_of_name (by decide +kernel)
theorem mk_M_fault : mOK m_M_fault 1 := ⟨inT8 22 rfl rfl, inT1 13 (by decide +kernel) rfl, by decide +kernel, by decide +kernel, nle rfl⟩
theorem im_M_fault : Cond.instanceMethod m_M_fault.1 ∈ TB := inT8 20 (by decide +kernel) rfl
theorem se_M_fault : Cond.selects m_M_fault.1.cls m_M_fault.1 m_M_fault.1 ∈ TB := inT8 21 (by decide +kernel) rfl
def m_M_isColumn : MI := (⟨"RowWalksModel", "isColumn", "(I)Z"⟩, prog_14_method_28_code, 2, (some .boolean))
theorem pl_M_isColumn : plainFor m_M_isColumn.1 = true := plainFor_of_name (by decide +kernel)
theorem mk_M_isColumn : mOK m_M_isColumn 1 := ⟨inT8 30 rfl rfl, inT1 13 (by decide +kernel) rfl, by decide +kernel, by decide +kernel, nle rfl⟩
theorem im_M_isColumn : Cond.instanceMethod m_M_isColumn.1 ∈ TB := inT8 29 (by decide +kernel) rfl
theorem se_M_isColumn : Cond.selects m_M_isColumn.1.cls m_M_isColumn.1 m_M_isColumn.1 ∈ TB := inTB 79 (by decide +kernel) rfl
def m_M_isRow : MI := (⟨"RowWalksModel", "isRow", "(I)Z"⟩, prog_14_method_29_code, 2, (some .boolean))
theorem pl_M_isRow : plainFor m_M_isRow.1 = true := plainFor_of_name (by decide +kernel)
theorem mk_M_isRow : mOK m_M_isRow 1 := ⟨inT8 34 rfl rfl, inT1 13 (by decide +kernel) rfl, by decide +kernel, by decide +kernel, nle rfl⟩
theorem im_M_isRow : Cond.instanceMethod m_M_isRow.1 ∈ TB := inT8 33 (by decide +kernel) rfl
theorem se_M_isRow : Cond.selects m_M_isRow.1.cls m_M_isRow.1 m_M_isRow.1 ∈ TB := inTB 80 (by decide +kernel) rfl
def m_M_numberOf : MI := (⟨"RowWalksModel", "numberOf", "(II)I"⟩, prog_14_method_30_code, 3, (some .int))
theorem pl_M_numberOf : plainFor m_M_numberOf.1 = true := plainFor_of_name (by decide +kernel)
theorem mk_M_numberOf : mOK m_M_numberOf 2 := ⟨inT8 38 rfl rfl, inT1 13 (by decide +kernel) rfl, by decide +kernel, by decide +kernel, nle rfl⟩
theorem im_M_numberOf : Cond.instanceMethod m_M_numberOf.1 ∈ TB := inT8 37 (by decide +kernel) rfl
theorem se_M_numberOf : Cond.selects m_M_numberOf.1.cls m_M_numberOf.1 m_M_numberOf.1 ∈ TB := inTB 81 (by decide +kernel) rfl
def m_M_gainOf : MI := (⟨"RowWalksModel", "gainOf", "(I)I"⟩, prog_14_method_31_code, 2, (some .int))
theorem pl_M_gainOf : plainFor m_M_gainOf.1 = true := plainFor_of_name (by decide +kernel)
theorem mk_M_gainOf : mOK m_M_gainOf 1 := ⟨inT8 47 rfl rfl, inT1 13 (by decide +kernel) rfl, by decide +kernel, by decide +kernel, nle rfl⟩
theorem im_M_gainOf : Cond.instanceMethod m_M_gainOf.1 ∈ TB := inT8 46 (by decide +kernel) rfl
theorem se_M_gainOf : Cond.selects m_M_gainOf.1.cls m_M_gainOf.1 m_M_gainOf.1 ∈ TB := inTB 82 (by decide +kernel) rfl
def m_M_needOf : MI := (⟨"RowWalksModel", "needOf", "(I)I"⟩, prog_14_method_32_code, 2, (some .int))
theorem pl_M_needOf : plainFor m_M_needOf.1 = true := plainFor_of_name (by decide +kernel)
theorem mk_M_needOf : mOK m_M_needOf 1 := ⟨inT8 55 rfl rfl, inT1 13 (by decide +kernel) rfl, by decide +kernel, by decide +kernel, nle rfl⟩
theorem im_M_needOf : Cond.instanceMethod m_M_needOf.1 ∈ TB := inT8 54 (by decide +kernel) rfl
theorem se_M_needOf : Cond.selects m_M_needOf.1.cls m_M_needOf.1 m_M_needOf.1 ∈ TB := inTB 83 (by decide +kernel) rfl
def m_M_number : MI := (⟨"RowWalksModel", "number", "(II)I"⟩, prog_14_method_33_code, 3, (some .int))
theorem pl_M_number : plainFor m_M_number.1 = true := plainFor_of_name (by decide +kernel)
theorem mk_M_number : mOK m_M_number 2 := ⟨inT8 26 rfl rfl, inT1 13 (by decide +kernel) rfl, by decide +kernel, by decide +kernel, nle rfl⟩
theorem im_M_number : Cond.instanceMethod m_M_number.1 ∈ TB := inT8 24 (by decide +kernel) rfl
theorem se_M_number : Cond.selects m_M_number.1.cls m_M_number.1 m_M_number.1 ∈ TB := inT8 25 (by decide +kernel) rfl
def m_M_gain : MI := (⟨"RowWalksModel", "gain", "(I)I"⟩, prog_14_method_34_code, 2, (some .int))
theorem pl_M_gain : plainFor m_M_gain.1 = true := plainFor_of_name (by decide +kernel)
theorem mk_M_gain : mOK m_M_gain 1 := ⟨inT8 43 rfl rfl, inT1 13 (by decide +kernel) rfl, by decide +kernel, by decide +kernel, nle rfl⟩
theorem im_M_gain : Cond.instanceMethod m_M_gain.1 ∈ TB := inT8 41 (by decide +kernel) rfl
theorem se_M_gain : Cond.selects m_M_gain.1.cls m_M_gain.1 m_M_gain.1 ∈ TB := inT8 42 (by decide +kernel) rfl
def m_M_need : MI := (⟨"RowWalksModel", "need", "(I)I"⟩, prog_14_method_35_code, 2, (some .int))
theorem pl_M_need : plainFor m_M_need.1 = true := plainFor_of_name (by decide +kernel)
theorem mk_M_need : mOK m_M_need 1 := ⟨inT8 51 rfl rfl, inT1 13 (by decide +kernel) rfl, by decide +kernel, by decide +kernel, nle rfl⟩
theorem im_M_need : Cond.instanceMethod m_M_need.1 ∈ TB := inT8 49 (by decide +kernel) rfl
theorem se_M_need : Cond.selects m_M_need.1.cls m_M_need.1 m_M_need.1 ∈ TB := inT8 50 (by decide +kernel) rfl
def m_M_act : MI := (⟨"RowWalksModel", "act", "()V"⟩, prog_14_method_36_code, 2, none)
theorem pl_M_act : plainFor m_M_act.1 = true := plainFor_of_name (by decide +kernel)
theorem mk_M_act : mOK m_M_act 0 := ⟨inT8 79 rfl rfl, inT1 13 (by decide +kernel) rfl, by decide +kernel, by decide +kernel, nle rfl⟩
theorem im_M_act : Cond.instanceMethod m_M_act.1 ∈ TB := inT8 78 (by decide +kernel) rfl
theorem se_M_act : Cond.selects m_M_act.1.cls m_M_act.1 m_M_act.1 ∈ TB := inTB 86 (by decide +kernel) rfl
def m_M_exchanges : MI := (⟨"RowWalksModel", "exchanges", "(I)V"⟩, prog_14_method_37_code, 4, none)
theorem pl_M_exchanges : plainFor m_M_exchanges.1 = true := plainFor_of_name (by decide +kernel)
theorem mk_M_exchanges : mOK m_M_exchanges 1 := ⟨inT8 63 rfl rfl, inT1 13 (by decide +kernel) rfl, by decide +kernel, by decide +kernel, nle rfl⟩
theorem im_M_exchanges : Cond.instanceMethod m_M_exchanges.1 ∈ TB := inT8 62 (by decide +kernel) rfl
theorem se_M_exchanges : Cond.selects m_M_exchanges.1.cls m_M_exchanges.1 m_M_exchanges.1 ∈ TB := inTB 84 (by decide +kernel) rfl
def m_M_undo : MI := (⟨"RowWalksModel", "undo", "()Z"⟩, prog_14_method_38_code, 1, (some .boolean))
theorem pl_M_undo : plainFor m_M_undo.1 = true := plainFor_of_name (by decide +kernel)
theorem mk_M_undo : mOK m_M_undo 0 := ⟨inT8 59 rfl rfl, inT1 13 (by decide +kernel) rfl, by decide +kernel, by decide +kernel, nle rfl⟩
theorem im_M_undo : Cond.instanceMethod m_M_undo.1 ∈ TB := inT8 57 (by decide +kernel) rfl
theorem se_M_undo : Cond.selects m_M_undo.1.cls m_M_undo.1 m_M_undo.1 ∈ TB := inT8 58 (by decide +kernel) rfl
def m_M_redo : MI := (⟨"RowWalksModel", "redo", "()Z"⟩, prog_14_method_39_code, 1, (some .boolean))
theorem pl_M_redo : plainFor m_M_redo.1 = true := plainFor_of_name (by decide +kernel)
theorem mk_M_redo : mOK m_M_redo 0 := ⟨inT8 67 rfl rfl, inT1 13 (by decide +kernel) rfl, by decide +kernel, by decide +kernel, nle rfl⟩
theorem im_M_redo : Cond.instanceMethod m_M_redo.1 ∈ TB := inT8 65 (by decide +kernel) rfl
theorem se_M_redo : Cond.selects m_M_redo.1.cls m_M_redo.1 m_M_redo.1 ∈ TB := inT8 66 (by decide +kernel) rfl
def m_M_becomes : MI := (⟨"RowWalksModel", "becomes", "(II)I"⟩, prog_14_method_40_code, 4, (some .int))
theorem pl_M_becomes : plainFor m_M_becomes.1 = true := plainFor_of_name (by decide +kernel)
theorem mk_M_becomes : mOK m_M_becomes 2 := ⟨inT8 75 rfl rfl, inT1 13 (by decide +kernel) rfl, by decide +kernel, by decide +kernel, nle rfl⟩
theorem im_M_becomes : Cond.instanceMethod m_M_becomes.1 ∈ TB := inT8 74 (by decide +kernel) rfl
theorem se_M_becomes : Cond.selects m_M_becomes.1.cls m_M_becomes.1 m_M_becomes.1 ∈ TB := inTB 85 (by decide +kernel) rfl
def m_M_change : MI := (⟨"RowWalksModel", "change", "(III)I"⟩, prog_14_method_41_code, 4, (some .int))
theorem pl_M_change : plainFor m_M_change.1 = true := plainFor_of_name (by decide +kernel)
theorem mk_M_change : mOK m_M_change 3 := ⟨inT8 71 rfl rfl, inT1 13 (by decide +kernel) rfl, by decide +kernel, by decide +kernel, nle rfl⟩
theorem im_M_change : Cond.instanceMethod m_M_change.1 ∈ TB := inT8 69 (by decide +kernel) rfl
theorem se_M_change : Cond.selects m_M_change.1.cls m_M_change.1 m_M_change.1 ∈ TB := inT8 70 (by decide +kernel) rfl
def m_M_worth : MI := (⟨"RowWalksModel", "worth", "(II)I"⟩, prog_14_method_42_code, 3, (some .int))
theorem pl_M_worth : plainFor m_M_worth.1 = true := plainFor_of_name (by decide +kernel)
theorem mk_M_worth : mOK m_M_worth 2 := ⟨inT8 83 rfl rfl, inT1 13 (by decide +kernel) rfl, by decide +kernel, by decide +kernel, nle rfl⟩
theorem im_M_worth : Cond.instanceMethod m_M_worth.1 ∈ TB := inT8 81 (by decide +kernel) rfl
theorem se_M_worth : Cond.selects m_M_worth.1.cls m_M_worth.1 m_M_worth.1 ∈ TB := inT8 82 (by decide +kernel) rfl
def m_M_want : MI := (⟨"RowWalksModel", "want", "(II)I"⟩, prog_14_method_43_code, 3, (some .int))
theorem pl_M_want : plainFor m_M_want.1 = true := plainFor_of_name (by decide +kernel)
theorem mk_M_want : mOK m_M_want 2 := ⟨inT8 87 rfl rfl, inT1 13 (by decide +kernel) rfl, by decide +kernel, by decide +kernel, nle rfl⟩
theorem im_M_want : Cond.instanceMethod m_M_want.1 ∈ TB := inT8 85 (by decide +kernel) rfl
theorem se_M_want : Cond.selects m_M_want.1.cls m_M_want.1 m_M_want.1 ∈ TB := inT8 86 (by decide +kernel) rfl
def m_M_allow : MI := (⟨"RowWalksModel", "allow", "(I)I"⟩, prog_14_method_44_code, 2, (some .int))
theorem pl_M_allow : plainFor m_M_allow.1 = true := plainFor_of_name (by decide +kernel)
theorem mk_M_allow : mOK m_M_allow 1 := ⟨inT8 91 rfl rfl, inT1 13 (by decide +kernel) rfl, by decide +kernel, by decide +kernel, nle rfl⟩
theorem im_M_allow : Cond.instanceMethod m_M_allow.1 ∈ TB := inT8 89 (by decide +kernel) rfl
theorem se_M_allow : Cond.selects m_M_allow.1.cls m_M_allow.1 m_M_allow.1 ∈ TB := inT8 90 (by decide +kernel) rfl
def m_M_hold : MI := (⟨"RowWalksModel", "hold", "(II)I"⟩, prog_14_method_45_code, 4, (some .int))
theorem pl_M_hold : plainFor m_M_hold.1 = true := plainFor_of_name (by decide +kernel)
theorem mk_M_hold : mOK m_M_hold 2 := ⟨inT8 95 rfl rfl, inT1 13 (by decide +kernel) rfl, by decide +kernel, by decide +kernel, nle rfl⟩
theorem im_M_hold : Cond.instanceMethod m_M_hold.1 ∈ TB := inT8 93 (by decide +kernel) rfl
theorem se_M_hold : Cond.selects m_M_hold.1.cls m_M_hold.1 m_M_hold.1 ∈ TB := inT8 94 (by decide +kernel) rfl
def m_M_held : MI := (⟨"RowWalksModel", "held", "(I)I"⟩, prog_14_method_46_code, 2, (some .int))
theorem pl_M_held : plainFor m_M_held.1 = true := plainFor_of_name (by decide +kernel)
theorem mk_M_held : mOK m_M_held 1 := ⟨inT8 99 rfl rfl, inT1 13 (by decide +kernel) rfl, by decide +kernel, by decide +kernel, nle rfl⟩
theorem im_M_held : Cond.instanceMethod m_M_held.1 ∈ TB := inT8 97 (by decide +kernel) rfl
theorem se_M_held : Cond.selects m_M_held.1.cls m_M_held.1 m_M_held.1 ∈ TB := inT8 98 (by decide +kernel) rfl
def m_M_heldSum : MI := (⟨"RowWalksModel", "heldSum", "(I)I"⟩, prog_14_method_47_code, 4, (some .int))
theorem pl_M_heldSum : plainFor m_M_heldSum.1 = true := plainFor_of_name (by decide +kernel)
theorem mk_M_heldSum : mOK m_M_heldSum 1 := ⟨inT8 107 rfl rfl, inT1 13 (by decide +kernel) rfl, by decide +kernel, by decide +kernel, nle rfl⟩
theorem im_M_heldSum : Cond.instanceMethod m_M_heldSum.1 ∈ TB := inT8 106 (by decide +kernel) rfl
theorem se_M_heldSum : Cond.selects m_M_heldSum.1.cls m_M_heldSum.1 m_M_heldSum.1 ∈ TB := inTB 87 (by decide +kernel) rfl
def m_M_heldGain : MI := (⟨"RowWalksModel", "heldGain", "()I"⟩, prog_14_method_48_code, 3, (some .int))
theorem pl_M_heldGain : plainFor m_M_heldGain.1 = true := plainFor_of_name (by decide +kernel)
theorem mk_M_heldGain : mOK m_M_heldGain 0 := ⟨inT8 111 rfl rfl, inT1 13 (by decide +kernel) rfl, by decide +kernel, by decide +kernel, nle rfl⟩
theorem im_M_heldGain : Cond.instanceMethod m_M_heldGain.1 ∈ TB := inT8 110 (by decide +kernel) rfl
theorem se_M_heldGain : Cond.selects m_M_heldGain.1.cls m_M_heldGain.1 m_M_heldGain.1 ∈ TB := inTB 88 (by decide +kernel) rfl
def m_M_heldSteps : MI := (⟨"RowWalksModel", "heldSteps", "()I"⟩, prog_14_method_49_code, 3, (some .int))
theorem pl_M_heldSteps : plainFor m_M_heldSteps.1 = true := plainFor_of_name (by decide +kernel)
theorem mk_M_heldSteps : mOK m_M_heldSteps 0 := ⟨inT8 115 rfl rfl, inT1 13 (by decide +kernel) rfl, by decide +kernel, by decide +kernel, nle rfl⟩
theorem im_M_heldSteps : Cond.instanceMethod m_M_heldSteps.1 ∈ TB := inT8 114 (by decide +kernel) rfl
theorem se_M_heldSteps : Cond.selects m_M_heldSteps.1.cls m_M_heldSteps.1 m_M_heldSteps.1 ∈ TB := inTB 89 (by decide +kernel) rfl
def m_M_heldOff : MI := (⟨"RowWalksModel", "heldOff", "()I"⟩, prog_14_method_50_code, 3, (some .int))
theorem pl_M_heldOff : plainFor m_M_heldOff.1 = true := plainFor_of_name (by decide +kernel)
theorem mk_M_heldOff : mOK m_M_heldOff 0 := ⟨inT8 119 rfl rfl, inT1 13 (by decide +kernel) rfl, by decide +kernel, by decide +kernel, nle rfl⟩
theorem im_M_heldOff : Cond.instanceMethod m_M_heldOff.1 ∈ TB := inT8 118 (by decide +kernel) rfl
theorem se_M_heldOff : Cond.selects m_M_heldOff.1.cls m_M_heldOff.1 m_M_heldOff.1 ∈ TB := inTB 90 (by decide +kernel) rfl
def m_M_holding : MI := (⟨"RowWalksModel", "holding", "(I)I"⟩, prog_14_method_51_code, 2, (some .int))
theorem pl_M_holding : plainFor m_M_holding.1 = true := plainFor_of_name (by decide +kernel)
theorem mk_M_holding : mOK m_M_holding 1 := ⟨inT8 103 rfl rfl, inT1 13 (by decide +kernel) rfl, by decide +kernel, by decide +kernel, nle rfl⟩
theorem im_M_holding : Cond.instanceMethod m_M_holding.1 ∈ TB := inT8 101 (by decide +kernel) rfl
theorem se_M_holding : Cond.selects m_M_holding.1.cls m_M_holding.1 m_M_holding.1 ∈ TB := inT8 102 (by decide +kernel) rfl
def m_M_firstPlan : MI := (⟨"RowWalksModel", "firstPlan", "(I)Z"⟩, prog_14_method_52_code, 3, (some .boolean))
theorem pl_M_firstPlan : plainFor m_M_firstPlan.1 = true := plainFor_of_name (by decide +kernel)
theorem mk_M_firstPlan : mOK m_M_firstPlan 1 := ⟨inT8 134 rfl rfl, inT1 13 (by decide +kernel) rfl, by decide +kernel, by decide +kernel, nle rfl⟩
theorem im_M_firstPlan : Cond.instanceMethod m_M_firstPlan.1 ∈ TB := inT8 133 (by decide +kernel) rfl
theorem se_M_firstPlan : Cond.selects m_M_firstPlan.1.cls m_M_firstPlan.1 m_M_firstPlan.1 ∈ TB := inTB 92 (by decide +kernel) rfl
def m_M_nextPlan : MI := (⟨"RowWalksModel", "nextPlan", "()Z"⟩, prog_14_method_53_code, 4, (some .boolean))
theorem pl_M_nextPlan : plainFor m_M_nextPlan.1 = true := plainFor_of_name (by decide +kernel)
theorem mk_M_nextPlan : mOK m_M_nextPlan 0 := ⟨inT8 149 rfl rfl, inT1 13 (by decide +kernel) rfl, by decide +kernel, by decide +kernel, nle rfl⟩
theorem im_M_nextPlan : Cond.instanceMethod m_M_nextPlan.1 ∈ TB := inT8 148 (by decide +kernel) rfl
theorem se_M_nextPlan : Cond.selects m_M_nextPlan.1.cls m_M_nextPlan.1 m_M_nextPlan.1 ∈ TB := inTB 95 (by decide +kernel) rfl
def m_M_planSum : MI := (⟨"RowWalksModel", "planSum", "(I)I"⟩, prog_14_method_54_code, 4, (some .int))
theorem pl_M_planSum : plainFor m_M_planSum.1 = true := plainFor_of_name (by decide +kernel)
theorem mk_M_planSum : mOK m_M_planSum 1 := ⟨inT8 142 rfl rfl, inT1 13 (by decide +kernel) rfl, by decide +kernel, by decide +kernel, nle rfl⟩
theorem im_M_planSum : Cond.instanceMethod m_M_planSum.1 ∈ TB := inT8 141 (by decide +kernel) rfl
theorem se_M_planSum : Cond.selects m_M_planSum.1.cls m_M_planSum.1 m_M_planSum.1 ∈ TB := inTB 94 (by decide +kernel) rfl
def m_M_planGain : MI := (⟨"RowWalksModel", "planGain", "()I"⟩, prog_14_method_55_code, 3, (some .int))
theorem pl_M_planGain : plainFor m_M_planGain.1 = true := plainFor_of_name (by decide +kernel)
theorem mk_M_planGain : mOK m_M_planGain 0 := ⟨inT8 165 rfl rfl, inT1 13 (by decide +kernel) rfl, by decide +kernel, by decide +kernel, nle rfl⟩
theorem im_M_planGain : Cond.instanceMethod m_M_planGain.1 ∈ TB := inT8 164 (by decide +kernel) rfl
theorem se_M_planGain : Cond.selects m_M_planGain.1.cls m_M_planGain.1 m_M_planGain.1 ∈ TB := inTB 97 (by decide +kernel) rfl
def m_M_doesLead : MI := (⟨"RowWalksModel", "doesLead", "()Z"⟩, prog_14_method_56_code, 3, (some .boolean))
theorem pl_M_doesLead : plainFor m_M_doesLead.1 = true := plainFor_of_name (by decide +kernel)
theorem mk_M_doesLead : mOK m_M_doesLead 0 := ⟨inT8 138 rfl rfl, inT1 13 (by decide +kernel) rfl, by decide +kernel, by decide +kernel, nle rfl⟩
theorem im_M_doesLead : Cond.instanceMethod m_M_doesLead.1 ∈ TB := inT8 137 (by decide +kernel) rfl
theorem se_M_doesLead : Cond.selects m_M_doesLead.1.cls m_M_doesLead.1 m_M_doesLead.1 ∈ TB := inTB 93 (by decide +kernel) rfl
def m_M_plansOf : MI := (⟨"RowWalksModel", "plansOf", "(I)I"⟩, prog_14_method_57_code, 4, (some .int))
theorem pl_M_plansOf : plainFor m_M_plansOf.1 = true := plainFor_of_name (by decide +kernel)
theorem mk_M_plansOf : mOK m_M_plansOf 1 := ⟨inT8 130 rfl rfl, inT1 13 (by decide +kernel) rfl, by decide +kernel, by decide +kernel, nle rfl⟩
theorem im_M_plansOf : Cond.instanceMethod m_M_plansOf.1 ∈ TB := inT8 129 (by decide +kernel) rfl
theorem se_M_plansOf : Cond.selects m_M_plansOf.1.cls m_M_plansOf.1 m_M_plansOf.1 ∈ TB := inTB 91 (by decide +kernel) rfl
def m_M_plans : MI := (⟨"RowWalksModel", "plans", "(I)I"⟩, prog_14_method_58_code, 2, (some .int))
theorem pl_M_plans : plainFor m_M_plans.1 = true := plainFor_of_name (by decide +kernel)
theorem mk_M_plans : mOK m_M_plans 1 := ⟨inT8 126 rfl rfl, inT1 13 (by decide +kernel) rfl, by decide +kernel, by decide +kernel, nle rfl⟩
theorem im_M_plans : Cond.instanceMethod m_M_plans.1 ∈ TB := inT8 124 (by decide +kernel) rfl
theorem se_M_plans : Cond.selects m_M_plans.1.cls m_M_plans.1 m_M_plans.1 ∈ TB := inT8 125 (by decide +kernel) rfl
def m_M_fewest : MI := (⟨"RowWalksModel", "fewest", "()I"⟩, prog_14_method_59_code, 2, (some .int))
theorem pl_M_fewest : plainFor m_M_fewest.1 = true := plainFor_of_name (by decide +kernel)
theorem mk_M_fewest : mOK m_M_fewest 0 := ⟨inT8 153 rfl rfl, inT1 13 (by decide +kernel) rfl, by decide +kernel, by decide +kernel, nle rfl⟩
theorem im_M_fewest : Cond.instanceMethod m_M_fewest.1 ∈ TB := inT8 151 (by decide +kernel) rfl
theorem se_M_fewest : Cond.selects m_M_fewest.1.cls m_M_fewest.1 m_M_fewest.1 ∈ TB := inT8 152 (by decide +kernel) rfl
def m_M_laysOptimum : MI := (⟨"RowWalksModel", "laysOptimum", "()Z"⟩, prog_14_method_60_code, 5, (some .boolean))
theorem pl_M_laysOptimum : plainFor m_M_laysOptimum.1 = true := plainFor_of_name (by decide +kernel)
theorem mk_M_laysOptimum : mOK m_M_laysOptimum 0 := ⟨inT8 161 rfl rfl, inT1 13 (by decide +kernel) rfl, by decide +kernel, by decide +kernel, nle rfl⟩
theorem im_M_laysOptimum : Cond.instanceMethod m_M_laysOptimum.1 ∈ TB := inT8 160 (by decide +kernel) rfl
theorem se_M_laysOptimum : Cond.selects m_M_laysOptimum.1.cls m_M_laysOptimum.1 m_M_laysOptimum.1 ∈ TB := inTB 96 (by decide +kernel) rfl
def m_M_optimum : MI := (⟨"RowWalksModel", "optimum", "(I)I"⟩, prog_14_method_61_code, 2, (some .int))
theorem pl_M_optimum : plainFor m_M_optimum.1 = true := plainFor_of_name (by decide +kernel)
theorem mk_M_optimum : mOK m_M_optimum 1 := ⟨inT8 157 rfl rfl, inT1 13 (by decide +kernel) rfl, by decide +kernel, by decide +kernel, nle rfl⟩
theorem im_M_optimum : Cond.instanceMethod m_M_optimum.1 ∈ TB := inT8 155 (by decide +kernel) rfl
theorem se_M_optimum : Cond.selects m_M_optimum.1.cls m_M_optimum.1 m_M_optimum.1 ∈ TB := inT8 156 (by decide +kernel) rfl
def m_M_plan : MI := (⟨"RowWalksModel", "plan", "(I)I"⟩, prog_14_method_62_code, 2, (some .int))
theorem pl_M_plan : plainFor m_M_plan.1 = true := plainFor_of_name (by decide +kernel)
theorem mk_M_plan : mOK m_M_plan 1 := ⟨inT8 169 rfl rfl, inT1 13 (by decide +kernel) rfl, by decide +kernel, by decide +kernel, nle rfl⟩
theorem im_M_plan : Cond.instanceMethod m_M_plan.1 ∈ TB := inT8 167 (by decide +kernel) rfl
theorem se_M_plan : Cond.selects m_M_plan.1.cls m_M_plan.1 m_M_plan.1 ∈ TB := inT8 168 (by decide +kernel) rfl
def m_M_partOf : MI := (⟨"RowWalksModel", "partOf", "(II)I"⟩, prog_14_method_63_code, 3, (some .int))
theorem pl_M_partOf : plainFor m_M_partOf.1 = true := plainFor_of_name (by decide +kernel)
theorem mk_M_partOf : mOK m_M_partOf 2 := ⟨inT8 182 rfl rfl, inT1 13 (by decide +kernel) rfl, by decide +kernel, by decide +kernel, nle rfl⟩
theorem im_M_partOf : Cond.instanceMethod m_M_partOf.1 ∈ TB := inT8 181 (by decide +kernel) rfl
theorem se_M_partOf : Cond.selects m_M_partOf.1.cls m_M_partOf.1 m_M_partOf.1 ∈ TB := inTB 99 (by decide +kernel) rfl
def m_M_strayOf : MI := (⟨"RowWalksModel", "strayOf", "(III)I"⟩, prog_14_method_64_code, 8, (some .int))
theorem pl_M_strayOf : plainFor m_M_strayOf.1 = true := plainFor_of_name (by decide +kernel)
theorem mk_M_strayOf : mOK m_M_strayOf 3 := ⟨inT8 193 rfl rfl, inT1 13 (by decide +kernel) rfl, by decide +kernel, by decide +kernel, nle rfl⟩
theorem im_M_strayOf : Cond.instanceMethod m_M_strayOf.1 ∈ TB := inT8 192 (by decide +kernel) rfl
theorem se_M_strayOf : Cond.selects m_M_strayOf.1.cls m_M_strayOf.1 m_M_strayOf.1 ∈ TB := inTB 101 (by decide +kernel) rfl
def m_M_stepsIn : MI := (⟨"RowWalksModel", "stepsIn", "(I)I"⟩, prog_14_method_65_code, 4, (some .int))
theorem pl_M_stepsIn : plainFor m_M_stepsIn.1 = true := plainFor_of_name (by decide +kernel)
theorem mk_M_stepsIn : mOK m_M_stepsIn 1 := ⟨inT8 189 rfl rfl, inT1 13 (by decide +kernel) rfl, by decide +kernel, by decide +kernel, nle rfl⟩
theorem im_M_stepsIn : Cond.instanceMethod m_M_stepsIn.1 ∈ TB := inT8 188 (by decide +kernel) rfl
theorem se_M_stepsIn : Cond.selects m_M_stepsIn.1.cls m_M_stepsIn.1 m_M_stepsIn.1 ∈ TB := inTB 100 (by decide +kernel) rfl
def m_M_laysOrder : MI := (⟨"RowWalksModel", "laysOrder", "()V"⟩, prog_14_method_66_code, 5, none)
theorem pl_M_laysOrder : plainFor m_M_laysOrder.1 = true := plainFor_of_name (by decide +kernel)
theorem mk_M_laysOrder : mOK m_M_laysOrder 0 := ⟨inT8 177 rfl rfl, inT1 13 (by decide +kernel) rfl, by decide +kernel, by decide +kernel, nle rfl⟩
theorem im_M_laysOrder : Cond.instanceMethod m_M_laysOrder.1 ∈ TB := inT8 176 (by decide +kernel) rfl
theorem se_M_laysOrder : Cond.selects m_M_laysOrder.1.cls m_M_laysOrder.1 m_M_laysOrder.1 ∈ TB := inTB 98 (by decide +kernel) rfl
def m_M_order : MI := (⟨"RowWalksModel", "order", "(I)I"⟩, prog_14_method_67_code, 5, (some .int))
theorem pl_M_order : plainFor m_M_order.1 = true := plainFor_of_name (by decide +kernel)
theorem mk_M_order : mOK m_M_order 1 := ⟨inT8 173 rfl rfl, inT1 13 (by decide +kernel) rfl, by decide +kernel, by decide +kernel, nle rfl⟩
theorem im_M_order : Cond.instanceMethod m_M_order.1 ∈ TB := inT8 171 (by decide +kernel) rfl
theorem se_M_order : Cond.selects m_M_order.1.cls m_M_order.1 m_M_order.1 ∈ TB := inT8 172 (by decide +kernel) rfl
def m_M_strays : MI := (⟨"RowWalksModel", "strays", "()I"⟩, prog_14_method_68_code, 1, (some .int))
theorem pl_M_strays : plainFor m_M_strays.1 = true := plainFor_of_name (by decide +kernel)
theorem mk_M_strays : mOK m_M_strays 0 := ⟨inT8 200 rfl rfl, inT1 13 (by decide +kernel) rfl, by decide +kernel, by decide +kernel, nle rfl⟩
theorem im_M_strays : Cond.instanceMethod m_M_strays.1 ∈ TB := inT8 198 (by decide +kernel) rfl
theorem se_M_strays : Cond.selects m_M_strays.1.cls m_M_strays.1 m_M_strays.1 ∈ TB := inT8 199 (by decide +kernel) rfl
def m_M_noSums : MI := (⟨"RowWalksModel", "noSums", "()V"⟩, prog_14_method_69_code, 2, none)
theorem pl_M_noSums : plainFor m_M_noSums.1 = true := plainFor_of_name (by decide +kernel)
theorem mk_M_noSums : mOK m_M_noSums 0 := ⟨inT8 208 rfl rfl, inT1 13 (by decide +kernel) rfl, by decide +kernel, by decide +kernel, nle rfl⟩
theorem im_M_noSums : Cond.instanceMethod m_M_noSums.1 ∈ TB := inT8 207 (by decide +kernel) rfl
theorem se_M_noSums : Cond.selects m_M_noSums.1.cls m_M_noSums.1 m_M_noSums.1 ∈ TB := inTB 102 (by decide +kernel) rfl
def m_M_adds : MI := (⟨"RowWalksModel", "adds", "(I)V"⟩, prog_14_method_70_code, 3, none)
theorem pl_M_adds : plainFor m_M_adds.1 = true := plainFor_of_name (by decide +kernel)
theorem mk_M_adds : mOK m_M_adds 1 := ⟨inT8 212 rfl rfl, inT1 13 (by decide +kernel) rfl, by decide +kernel, by decide +kernel, nle rfl⟩
theorem im_M_adds : Cond.instanceMethod m_M_adds.1 ∈ TB := inT8 211 (by decide +kernel) rfl
theorem se_M_adds : Cond.selects m_M_adds.1.cls m_M_adds.1 m_M_adds.1 ∈ TB := inTB 103 (by decide +kernel) rfl
def m_M_strayNow : MI := (⟨"RowWalksModel", "strayNow", "(II)I"⟩, prog_14_method_71_code, 5, (some .int))
theorem pl_M_strayNow : plainFor m_M_strayNow.1 = true := plainFor_of_name (by decide +kernel)
theorem mk_M_strayNow : mOK m_M_strayNow 2 := ⟨inT8 216 rfl rfl, inT1 13 (by decide +kernel) rfl, by decide +kernel, by decide +kernel, nle rfl⟩
theorem im_M_strayNow : Cond.instanceMethod m_M_strayNow.1 ∈ TB := inT8 215 (by decide +kernel) rfl
theorem se_M_strayNow : Cond.selects m_M_strayNow.1.cls m_M_strayNow.1 m_M_strayNow.1 ∈ TB := inTB 104 (by decide +kernel) rfl
def m_M_sorted : MI := (⟨"RowWalksModel", "sorted", "()I"⟩, prog_14_method_72_code, 5, (some .int))
theorem pl_M_sorted : plainFor m_M_sorted.1 = true := plainFor_of_name (by decide +kernel)
theorem mk_M_sorted : mOK m_M_sorted 0 := ⟨inT8 204 rfl rfl, inT1 13 (by decide +kernel) rfl, by decide +kernel, by decide +kernel, nle rfl⟩
theorem im_M_sorted : Cond.instanceMethod m_M_sorted.1 ∈ TB := inT8 202 (by decide +kernel) rfl
theorem se_M_sorted : Cond.selects m_M_sorted.1.cls m_M_sorted.1 m_M_sorted.1 ∈ TB := inT8 203 (by decide +kernel) rfl
def m_M_keyNow : MI := (⟨"RowWalksModel", "keyNow", "()I"⟩, prog_14_method_73_code, 1, (some .int))
theorem pl_M_keyNow : plainFor m_M_keyNow.1 = true := plainFor_of_name (by decide +kernel)
theorem mk_M_keyNow : mOK m_M_keyNow 0 := ⟨inT8 239 rfl rfl, inT1 13 (by decide +kernel) rfl, by decide +kernel, by decide +kernel, nle rfl⟩
theorem im_M_keyNow : Cond.instanceMethod m_M_keyNow.1 ∈ TB := inT8 238 (by decide +kernel) rfl
theorem se_M_keyNow : Cond.selects m_M_keyNow.1.cls m_M_keyNow.1 m_M_keyNow.1 ∈ TB := inTB 108 (by decide +kernel) rfl
def m_M_unpacks : MI := (⟨"RowWalksModel", "unpacks", "(I)V"⟩, prog_14_method_74_code, 2, none)
theorem pl_M_unpacks : plainFor m_M_unpacks.1 = true := plainFor_of_name (by decide +kernel)
theorem mk_M_unpacks : mOK m_M_unpacks 1 := ⟨inT9 9 rfl rfl, inT1 13 (by decide +kernel) rfl, by decide +kernel, by decide +kernel, nle rfl⟩
theorem im_M_unpacks : Cond.instanceMethod m_M_unpacks.1 ∈ TB := inT9 8 (by decide +kernel) rfl
theorem se_M_unpacks : Cond.selects m_M_unpacks.1.cls m_M_unpacks.1 m_M_unpacks.1 ∈ TB := inTB 110 (by decide +kernel) rfl
def m_M_slotOf : MI := (⟨"RowWalksModel", "slotOf", "(II)I"⟩, prog_14_method_75_code, 4, (some .int))
theorem pl_M_slotOf : plainFor m_M_slotOf.1 = true := plainFor_of_name (by decide +kernel)
theorem mk_M_slotOf : mOK m_M_slotOf 2 := ⟨inT9 3 rfl rfl, inT1 13 (by decide +kernel) rfl, by decide +kernel, by decide +kernel, nle rfl⟩
theorem im_M_slotOf : Cond.instanceMethod m_M_slotOf.1 ∈ TB := inT9 2 (by decide +kernel) rfl
theorem se_M_slotOf : Cond.selects m_M_slotOf.1.cls m_M_slotOf.1 m_M_slotOf.1 ∈ TB := inTB 109 (by decide +kernel) rfl
def m_M_comes : MI := (⟨"RowWalksModel", "comes", "(I)V"⟩, prog_14_method_76_code, 4, none)
theorem pl_M_comes : plainFor m_M_comes.1 = true := plainFor_of_name (by decide +kernel)
theorem mk_M_comes : mOK m_M_comes 1 := ⟨inT8 235 rfl rfl, inT1 13 (by decide +kernel) rfl, by decide +kernel, by decide +kernel, nle rfl⟩
theorem im_M_comes : Cond.instanceMethod m_M_comes.1 ∈ TB := inT8 234 (by decide +kernel) rfl
theorem se_M_comes : Cond.selects m_M_comes.1.cls m_M_comes.1 m_M_comes.1 ∈ TB := inTB 107 (by decide +kernel) rfl
def m_M_laysLayers : MI := (⟨"RowWalksModel", "laysLayers", "(II)V"⟩, prog_14_method_77_code, 6, none)
theorem pl_M_laysLayers : plainFor m_M_laysLayers.1 = true := plainFor_of_name (by decide +kernel)
theorem mk_M_laysLayers : mOK m_M_laysLayers 2 := ⟨inT8 231 rfl rfl, inT1 13 (by decide +kernel) rfl, by decide +kernel, by decide +kernel, nle rfl⟩
theorem im_M_laysLayers : Cond.instanceMethod m_M_laysLayers.1 ∈ TB := inT8 230 (by decide +kernel) rfl
theorem se_M_laysLayers : Cond.selects m_M_laysLayers.1.cls m_M_laysLayers.1 m_M_laysLayers.1 ∈ TB := inTB 106 (by decide +kernel) rfl
def m_M_isNeeded : MI := (⟨"RowWalksModel", "isNeeded", "()Z"⟩, prog_14_method_78_code, 3, (some .boolean))
theorem pl_M_isNeeded : plainFor m_M_isNeeded.1 = true := plainFor_of_name (by decide +kernel)
theorem mk_M_isNeeded : mOK m_M_isNeeded 0 := ⟨inT9 17 rfl rfl, inT1 13 (by decide +kernel) rfl, by decide +kernel, by decide +kernel, nle rfl⟩
theorem im_M_isNeeded : Cond.instanceMethod m_M_isNeeded.1 ∈ TB := inT9 16 (by decide +kernel) rfl
theorem se_M_isNeeded : Cond.selects m_M_isNeeded.1.cls m_M_isNeeded.1 m_M_isNeeded.1 ∈ TB := inTB 112 (by decide +kernel) rfl
def m_M_behind : MI := (⟨"RowWalksModel", "behind", "(III)I"⟩, prog_14_method_79_code, 5, (some .int))
theorem pl_M_behind : plainFor m_M_behind.1 = true := plainFor_of_name (by decide +kernel)
theorem mk_M_behind : mOK m_M_behind 3 := ⟨inT9 22 rfl rfl, inT1 13 (by decide +kernel) rfl, by decide +kernel, by decide +kernel, nle rfl⟩
theorem im_M_behind : Cond.instanceMethod m_M_behind.1 ∈ TB := inT9 21 (by decide +kernel) rfl
theorem se_M_behind : Cond.selects m_M_behind.1.cls m_M_behind.1 m_M_behind.1 ∈ TB := inTB 113 (by decide +kernel) rfl
def m_M_laysWays : MI := (⟨"RowWalksModel", "laysWays", "(I)V"⟩, prog_14_method_80_code, 6, none)
theorem pl_M_laysWays : plainFor m_M_laysWays.1 = true := plainFor_of_name (by decide +kernel)
theorem mk_M_laysWays : mOK m_M_laysWays 1 := ⟨inT9 13 rfl rfl, inT1 13 (by decide +kernel) rfl, by decide +kernel, by decide +kernel, nle rfl⟩
theorem im_M_laysWays : Cond.instanceMethod m_M_laysWays.1 ∈ TB := inT9 12 (by decide +kernel) rfl
theorem se_M_laysWays : Cond.selects m_M_laysWays.1.cls m_M_laysWays.1 m_M_laysWays.1 ∈ TB := inTB 111 (by decide +kernel) rfl
def m_M_laysStrip : MI := (⟨"RowWalksModel", "laysStrip", "(II)V"⟩, prog_14_method_81_code, 3, none)
theorem pl_M_laysStrip : plainFor m_M_laysStrip.1 = true := plainFor_of_name (by decide +kernel)
theorem mk_M_laysStrip : mOK m_M_laysStrip 2 := ⟨inT8 227 rfl rfl, inT1 13 (by decide +kernel) rfl, by decide +kernel, by decide +kernel, nle rfl⟩
theorem im_M_laysStrip : Cond.instanceMethod m_M_laysStrip.1 ∈ TB := inT8 226 (by decide +kernel) rfl
theorem se_M_laysStrip : Cond.selects m_M_laysStrip.1.cls m_M_laysStrip.1 m_M_laysStrip.1 ∈ TB := inTB 105 (by decide +kernel) rfl
def m_M_isStrip : MI := (⟨"RowWalksModel", "isStrip", "(II)Z"⟩, prog_14_method_82_code, 2, (some .boolean))
theorem pl_M_isStrip : plainFor m_M_isStrip.1 = true := plainFor_of_name (by decide +kernel)
theorem mk_M_isStrip : mOK m_M_isStrip 2 := ⟨inT8 223 rfl rfl, inT1 13 (by decide +kernel) rfl, by decide +kernel, by decide +kernel, nle rfl⟩
theorem st_M_isStrip : Cond.static m_M_isStrip.1 ∈ TB := inT8 222 (by decide +kernel) rfl
def m_M_strip : MI := (⟨"RowWalksModel", "strip", "(III)I"⟩, prog_14_method_83_code, 4, (some .int))
theorem pl_M_strip : plainFor m_M_strip.1 = true := plainFor_of_name (by decide +kernel)
theorem mk_M_strip : mOK m_M_strip 3 := ⟨inT8 220 rfl rfl, inT1 13 (by decide +kernel) rfl, by decide +kernel, by decide +kernel, nle rfl⟩
theorem im_M_strip : Cond.instanceMethod m_M_strip.1 ∈ TB := inT8 218 (by decide +kernel) rfl
theorem se_M_strip : Cond.selects m_M_strip.1.cls m_M_strip.1 m_M_strip.1 ∈ TB := inT8 219 (by decide +kernel) rfl
def m_M_walks : MI := (⟨"RowWalksModel", "walks", "(II)J"⟩, prog_14_method_84_code, 3, (some .long))
theorem pl_M_walks : plainFor m_M_walks.1 = true := plainFor_of_name (by decide +kernel)
theorem mk_M_walks : mOK m_M_walks 2 := ⟨inT9 26 rfl rfl, inT1 13 (by decide +kernel) rfl, by decide +kernel, by decide +kernel, nle rfl⟩
theorem im_M_walks : Cond.instanceMethod m_M_walks.1 ∈ TB := inT9 24 (by decide +kernel) rfl
theorem se_M_walks : Cond.selects m_M_walks.1.cls m_M_walks.1 m_M_walks.1 ∈ TB := inT9 25 (by decide +kernel) rfl
def m_M_best : MI := (⟨"RowWalksModel", "best", "(II)I"⟩, prog_14_method_85_code, 3, (some .int))
theorem pl_M_best : plainFor m_M_best.1 = true := plainFor_of_name (by decide +kernel)
theorem mk_M_best : mOK m_M_best 2 := ⟨inT9 31 rfl rfl, inT1 13 (by decide +kernel) rfl, by decide +kernel, by decide +kernel, nle rfl⟩
theorem im_M_best : Cond.instanceMethod m_M_best.1 ∈ TB := inT9 29 (by decide +kernel) rfl
theorem se_M_best : Cond.selects m_M_best.1.cls m_M_best.1 m_M_best.1 ∈ TB := inT9 30 (by decide +kernel) rfl
def m_M_step : MI := (⟨"RowWalksModel", "step", "(III)I"⟩, prog_14_method_86_code, 7, (some .int))
theorem pl_M_step : plainFor m_M_step.1 = true := plainFor_of_name (by decide +kernel)
theorem mk_M_step : mOK m_M_step 3 := ⟨inT9 35 rfl rfl, inT1 13 (by decide +kernel) rfl, by decide +kernel, by decide +kernel, nle rfl⟩
theorem im_M_step : Cond.instanceMethod m_M_step.1 ∈ TB := inT9 33 (by decide +kernel) rfl
theorem se_M_step : Cond.selects m_M_step.1.cls m_M_step.1 m_M_step.1 ∈ TB := inT9 34 (by decide +kernel) rfl
def m_M_isBestStep : MI := (⟨"RowWalksModel", "isBestStep", "(III)Z"⟩, prog_14_method_87_code, 5, (some .boolean))
theorem pl_M_isBestStep : plainFor m_M_isBestStep.1 = true := plainFor_of_name (by decide +kernel)
theorem mk_M_isBestStep : mOK m_M_isBestStep 3 := ⟨inT9 39 rfl rfl, inT1 13 (by decide +kernel) rfl, by decide +kernel, by decide +kernel, nle rfl⟩
theorem im_M_isBestStep : Cond.instanceMethod m_M_isBestStep.1 ∈ TB := inT9 38 (by decide +kernel) rfl
theorem se_M_isBestStep : Cond.selects m_M_isBestStep.1.cls m_M_isBestStep.1 m_M_isBestStep.1 ∈ TB := inTB 114 (by decide +kernel) rfl
def m_M_narrow : MI := (⟨"RowWalksModel", "narrow", "(I)I"⟩, prog_14_method_88_code, 3, (some .int))
theorem pl_M_narrow : plainFor m_M_narrow.1 = true := plainFor_of_name (by decide +kernel)
theorem mk_M_narrow : mOK m_M_narrow 1 := ⟨inT9 43 rfl rfl, inT1 13 (by decide +kernel) rfl, by decide +kernel, by decide +kernel, nle rfl⟩
theorem im_M_narrow : Cond.instanceMethod m_M_narrow.1 ∈ TB := inT9 41 (by decide +kernel) rfl
theorem se_M_narrow : Cond.selects m_M_narrow.1.cls m_M_narrow.1 m_M_narrow.1 ∈ TB := inT9 42 (by decide +kernel) rfl
def m_M_isNear : MI := (⟨"RowWalksModel", "isNear", "(II)Z"⟩, prog_14_method_89_code, 5, (some .boolean))
theorem pl_M_isNear : plainFor m_M_isNear.1 = true := plainFor_of_name (by decide +kernel)
theorem mk_M_isNear : mOK m_M_isNear 2 := ⟨inT9 59 rfl rfl, inT1 13 (by decide +kernel) rfl, by decide +kernel, by decide +kernel, nle rfl⟩
theorem im_M_isNear : Cond.instanceMethod m_M_isNear.1 ∈ TB := inT9 58 (by decide +kernel) rfl
theorem se_M_isNear : Cond.selects m_M_isNear.1.cls m_M_isNear.1 m_M_isNear.1 ∈ TB := inTB 117 (by decide +kernel) rfl
def m_M_comesTo : MI := (⟨"RowWalksModel", "comesTo", "(IIII)V"⟩, prog_14_method_90_code, 6, none)
theorem pl_M_comesTo : plainFor m_M_comesTo.1 = true := plainFor_of_name (by decide +kernel)
theorem mk_M_comesTo : mOK m_M_comesTo 4 := ⟨inT9 55 rfl rfl, inT1 13 (by decide +kernel) rfl, by decide +kernel, by decide +kernel, nle rfl⟩
theorem im_M_comesTo : Cond.instanceMethod m_M_comesTo.1 ∈ TB := inT9 54 (by decide +kernel) rfl
theorem se_M_comesTo : Cond.selects m_M_comesTo.1.cls m_M_comesTo.1 m_M_comesTo.1 ∈ TB := inTB 116 (by decide +kernel) rfl
def m_M_laysDoubled : MI := (⟨"RowWalksModel", "laysDoubled", "(II)V"⟩, prog_14_method_91_code, 9, none)
theorem pl_M_laysDoubled : plainFor m_M_laysDoubled.1 = true := plainFor_of_name (by decide +kernel)
theorem mk_M_laysDoubled : mOK m_M_laysDoubled 2 := ⟨inT9 51 rfl rfl, inT1 13 (by decide +kernel) rfl, by decide +kernel, by decide +kernel, nle rfl⟩
theorem im_M_laysDoubled : Cond.instanceMethod m_M_laysDoubled.1 ∈ TB := inT9 50 (by decide +kernel) rfl
theorem se_M_laysDoubled : Cond.selects m_M_laysDoubled.1.cls m_M_laysDoubled.1 m_M_laysDoubled.1 ∈ TB := inTB 115 (by decide +kernel) rfl
def m_M_isOfLevel : MI := (⟨"RowWalksModel", "isOfLevel", "(I)Z"⟩, prog_14_method_92_code, 5, (some .boolean))
theorem pl_M_isOfLevel : plainFor m_M_isOfLevel.1 = true := plainFor_of_name (by decide +kernel)
theorem mk_M_isOfLevel : mOK m_M_isOfLevel 1 := ⟨inT9 63 rfl rfl, inT1 13 (by decide +kernel) rfl, by decide +kernel, by decide +kernel, nle rfl⟩
theorem im_M_isOfLevel : Cond.instanceMethod m_M_isOfLevel.1 ∈ TB := inT9 62 (by decide +kernel) rfl
theorem se_M_isOfLevel : Cond.selects m_M_isOfLevel.1.cls m_M_isOfLevel.1 m_M_isOfLevel.1 ∈ TB := inTB 118 (by decide +kernel) rfl
def m_M_doubled : MI := (⟨"RowWalksModel", "doubled", "(III)I"⟩, prog_14_method_93_code, 4, (some .int))
theorem pl_M_doubled : plainFor m_M_doubled.1 = true := plainFor_of_name (by decide +kernel)
theorem mk_M_doubled : mOK m_M_doubled 3 := ⟨inT9 47 rfl rfl, inT1 13 (by decide +kernel) rfl, by decide +kernel, by decide +kernel, nle rfl⟩
theorem im_M_doubled : Cond.instanceMethod m_M_doubled.1 ∈ TB := inT9 45 (by decide +kernel) rfl
theorem se_M_doubled : Cond.selects m_M_doubled.1.cls m_M_doubled.1 m_M_doubled.1 ∈ TB := inT9 46 (by decide +kernel) rfl
def m_M_common : MI := (⟨"RowWalksModel", "common", "(JJ)J"⟩, prog_14_method_94_code, 10, (some .long))
theorem pl_M_common : plainFor m_M_common.1 = true := plainFor_of_name (by decide +kernel)
theorem mk_M_common : mOK m_M_common 2 := ⟨inT9 93 rfl rfl, inT1 13 (by decide +kernel) rfl, by decide +kernel, by decide +kernel, nle rfl⟩
theorem st_M_common : Cond.static m_M_common.1 ∈ TB := inT9 92 (by decide +kernel) rfl
def m_M_pluses : MI := (⟨"RowWalksModel", "pluses", "(JJ)V"⟩, prog_14_method_95_code, 11, none)
theorem pl_M_pluses : plainFor m_M_pluses.1 = true := plainFor_of_name (by decide +kernel)
theorem mk_M_pluses : mOK m_M_pluses 2 := ⟨inT9 101 rfl rfl, inT1 13 (by decide +kernel) rfl, by decide +kernel, by decide +kernel, nle rfl⟩
theorem im_M_pluses : Cond.instanceMethod m_M_pluses.1 ∈ TB := inT9 100 (by decide +kernel) rfl
theorem se_M_pluses : Cond.selects m_M_pluses.1.cls m_M_pluses.1 m_M_pluses.1 ∈ TB := inTB 125 (by decide +kernel) rfl
def m_M_swapsRows : MI := (⟨"RowWalksModel", "swapsRows", "(II)V"⟩, prog_14_method_96_code, 6, none)
theorem pl_M_swapsRows : plainFor m_M_swapsRows.1 = true := plainFor_of_name (by decide +kernel)
theorem mk_M_swapsRows : mOK m_M_swapsRows 2 := ⟨inT9 86 rfl rfl, inT1 13 (by decide +kernel) rfl, by decide +kernel, by decide +kernel, nle rfl⟩
theorem im_M_swapsRows : Cond.instanceMethod m_M_swapsRows.1 ∈ TB := inT9 85 (by decide +kernel) rfl
theorem se_M_swapsRows : Cond.selects m_M_swapsRows.1.cls m_M_swapsRows.1 m_M_swapsRows.1 ∈ TB := inTB 122 (by decide +kernel) rfl
def m_M_clears : MI := (⟨"RowWalksModel", "clears", "(III)V"⟩, prog_14_method_97_code, 9, none)
theorem pl_M_clears : plainFor m_M_clears.1 = true := plainFor_of_name (by decide +kernel)
theorem mk_M_clears : mOK m_M_clears 3 := ⟨inT9 90 rfl rfl, inT1 13 (by decide +kernel) rfl, by decide +kernel, by decide +kernel, nle rfl⟩
theorem im_M_clears : Cond.instanceMethod m_M_clears.1 ∈ TB := inT9 89 (by decide +kernel) rfl
theorem se_M_clears : Cond.selects m_M_clears.1.cls m_M_clears.1 m_M_clears.1 ∈ TB := inTB 123 (by decide +kernel) rfl
def m_M_comesBy : MI := (⟨"RowWalksModel", "comesBy", "(I)Z"⟩, prog_14_method_98_code, 10, (some .boolean))
theorem pl_M_comesBy : plainFor m_M_comesBy.1 = true := plainFor_of_name (by decide +kernel)
theorem mk_M_comesBy : mOK m_M_comesBy 1 := ⟨inT9 82 rfl rfl, inT1 13 (by decide +kernel) rfl, by decide +kernel, by decide +kernel, nle rfl⟩
theorem im_M_comesBy : Cond.instanceMethod m_M_comesBy.1 ∈ TB := inT9 81 (by decide +kernel) rfl
theorem se_M_comesBy : Cond.selects m_M_comesBy.1.cls m_M_comesBy.1 m_M_comesBy.1 ∈ TB := inTB 121 (by decide +kernel) rfl
def m_M_gains : MI := (⟨"RowWalksModel", "gains", "()V"⟩, prog_14_method_99_code, 2, none)
theorem pl_M_gains : plainFor m_M_gains.1 = true := plainFor_of_name (by decide +kernel)
theorem mk_M_gains : mOK m_M_gains 0 := ⟨inT9 97 rfl rfl, inT1 13 (by decide +kernel) rfl, by decide +kernel, by decide +kernel, nle rfl⟩
theorem im_M_gains : Cond.instanceMethod m_M_gains.1 ∈ TB := inT9 96 (by decide +kernel) rfl
theorem se_M_gains : Cond.selects m_M_gains.1.cls m_M_gains.1 m_M_gains.1 ∈ TB := inTB 124 (by decide +kernel) rfl
def m_M_aimsAtNeed : MI := (⟨"RowWalksModel", "aimsAtNeed", "()V"⟩, prog_14_method_100_code, 2, none)
theorem pl_M_aimsAtNeed : plainFor m_M_aimsAtNeed.1 = true := plainFor_of_name (by decide +kernel)
theorem mk_M_aimsAtNeed : mOK m_M_aimsAtNeed 0 := ⟨inT9 75 rfl rfl, inT1 13 (by decide +kernel) rfl, by decide +kernel, by decide +kernel, nle rfl⟩
theorem im_M_aimsAtNeed : Cond.instanceMethod m_M_aimsAtNeed.1 ∈ TB := inT9 74 (by decide +kernel) rfl
theorem se_M_aimsAtNeed : Cond.selects m_M_aimsAtNeed.1.cls m_M_aimsAtNeed.1 m_M_aimsAtNeed.1 ∈ TB := inTB 120 (by decide +kernel) rfl
def m_M_many : MI := (⟨"RowWalksModel", "many", "(I)I"⟩, prog_14_method_101_code, 3, (some .int))
theorem pl_M_many : plainFor m_M_many.1 = true := plainFor_of_name (by decide +kernel)
theorem mk_M_many : mOK m_M_many 1 := ⟨inT9 78 rfl rfl, inT1 13 (by decide +kernel) rfl, by decide +kernel, by decide +kernel, nle rfl⟩
theorem st_M_many : Cond.static m_M_many.1 ∈ TB := inT9 77 (by decide +kernel) rfl
def m_M_goesRound : MI := (⟨"RowWalksModel", "goesRound", "()Z"⟩, prog_14_method_102_code, 3, (some .boolean))
theorem pl_M_goesRound : plainFor m_M_goesRound.1 = true := plainFor_of_name (by decide +kernel)
theorem mk_M_goesRound : mOK m_M_goesRound 0 := ⟨inT9 113 rfl rfl, inT1 13 (by decide +kernel) rfl, by decide +kernel, by decide +kernel, nle rfl⟩
theorem im_M_goesRound : Cond.instanceMethod m_M_goesRound.1 ∈ TB := inT9 112 (by decide +kernel) rfl
theorem se_M_goesRound : Cond.selects m_M_goesRound.1.cls m_M_goesRound.1 m_M_goesRound.1 ∈ TB := inTB 127 (by decide +kernel) rfl
def m_M_laysCorners : MI := (⟨"RowWalksModel", "laysCorners", "()Z"⟩, prog_14_method_103_code, 3, (some .boolean))
theorem pl_M_laysCorners : plainFor m_M_laysCorners.1 = true := plainFor_of_name (by decide +kernel)
theorem mk_M_laysCorners : mOK m_M_laysCorners 0 := ⟨inT9 71 rfl rfl, inT1 13 (by decide +kernel) rfl, by decide +kernel, by decide +kernel, nle rfl⟩
theorem im_M_laysCorners : Cond.instanceMethod m_M_laysCorners.1 ∈ TB := inT9 70 (by decide +kernel) rfl
theorem se_M_laysCorners : Cond.selects m_M_laysCorners.1.cls m_M_laysCorners.1 m_M_laysCorners.1 ∈ TB := inTB 119 (by decide +kernel) rfl
def m_M_corners : MI := (⟨"RowWalksModel", "corners", "()I"⟩, prog_14_method_104_code, 2, (some .int))
theorem pl_M_corners : plainFor m_M_corners.1 = true := plainFor_of_name (by decide +kernel)
theorem mk_M_corners : mOK m_M_corners 0 := ⟨inT9 67 rfl rfl, inT1 13 (by decide +kernel) rfl, by decide +kernel, by decide +kernel, nle rfl⟩
theorem im_M_corners : Cond.instanceMethod m_M_corners.1 ∈ TB := inT9 65 (by decide +kernel) rfl
theorem se_M_corners : Cond.selects m_M_corners.1.cls m_M_corners.1 m_M_corners.1 ∈ TB := inT9 66 (by decide +kernel) rfl
def m_M_laysRelaxed : MI := (⟨"RowWalksModel", "laysRelaxed", "()Z"⟩, prog_14_method_105_code, 2, (some .boolean))
theorem pl_M_laysRelaxed : plainFor m_M_laysRelaxed.1 = true := plainFor_of_name (by decide +kernel)
theorem mk_M_laysRelaxed : mOK m_M_laysRelaxed 0 := ⟨inT9 109 rfl rfl, inT1 13 (by decide +kernel) rfl, by decide +kernel, by decide +kernel, nle rfl⟩
theorem im_M_laysRelaxed : Cond.instanceMethod m_M_laysRelaxed.1 ∈ TB := inT9 108 (by decide +kernel) rfl
theorem se_M_laysRelaxed : Cond.selects m_M_laysRelaxed.1.cls m_M_laysRelaxed.1 m_M_laysRelaxed.1 ∈ TB := inTB 126 (by decide +kernel) rfl
def m_M_relaxed : MI := (⟨"RowWalksModel", "relaxed", "(I)I"⟩, prog_14_method_106_code, 2, (some .int))
theorem pl_M_relaxed : plainFor m_M_relaxed.1 = true := plainFor_of_name (by decide +kernel)
theorem mk_M_relaxed : mOK m_M_relaxed 1 := ⟨inT9 105 rfl rfl, inT1 13 (by decide +kernel) rfl, by decide +kernel, by decide +kernel, nle rfl⟩
theorem im_M_relaxed : Cond.instanceMethod m_M_relaxed.1 ∈ TB := inT9 103 (by decide +kernel) rfl
theorem se_M_relaxed : Cond.selects m_M_relaxed.1.cls m_M_relaxed.1 m_M_relaxed.1 ∈ TB := inT9 104 (by decide +kernel) rfl
def m_M_fraction : MI := (⟨"RowWalksModel", "fraction", "(II)I"⟩, prog_14_method_107_code, 3, (some .int))
theorem pl_M_fraction : plainFor m_M_fraction.1 = true := plainFor_of_name (by decide +kernel)
theorem mk_M_fraction : mOK m_M_fraction 2 := ⟨inT9 117 rfl rfl, inT1 13 (by decide +kernel) rfl, by decide +kernel, by decide +kernel, nle rfl⟩
theorem im_M_fraction : Cond.instanceMethod m_M_fraction.1 ∈ TB := inT9 115 (by decide +kernel) rfl
theorem se_M_fraction : Cond.selects m_M_fraction.1.cls m_M_fraction.1 m_M_fraction.1 ∈ TB := inT9 116 (by decide +kernel) rfl
def m_M_apart : MI := (⟨"RowWalksModel", "apart", "(I)I"⟩, prog_14_method_108_code, 5, (some .int))
theorem pl_M_apart : plainFor m_M_apart.1 = true := plainFor_of_name (by decide +kernel)
theorem mk_M_apart : mOK m_M_apart 1 := ⟨inT9 121 rfl rfl, inT1 13 (by decide +kernel) rfl, by decide +kernel, by decide +kernel, nle rfl⟩
theorem im_M_apart : Cond.instanceMethod m_M_apart.1 ∈ TB := inT9 119 (by decide +kernel) rfl
theorem se_M_apart : Cond.selects m_M_apart.1.cls m_M_apart.1 m_M_apart.1 ∈ TB := inT9 120 (by decide +kernel) rfl
def m_M_canGo : MI := (⟨"RowWalksModel", "canGo", "()Z"⟩, prog_14_method_109_code, 3, (some .boolean))
theorem pl_M_canGo : plainFor m_M_canGo.1 = true := plainFor_of_name (by decide +kernel)
theorem mk_M_canGo : mOK m_M_canGo 0 := ⟨inT9 133 rfl rfl, inT1 13 (by decide +kernel) rfl, by decide +kernel, by decide +kernel, nle rfl⟩
theorem im_M_canGo : Cond.instanceMethod m_M_canGo.1 ∈ TB := inT9 132 (by decide +kernel) rfl
theorem se_M_canGo : Cond.selects m_M_canGo.1.cls m_M_canGo.1 m_M_canGo.1 ∈ TB := inTB 129 (by decide +kernel) rfl
def m_M_canCome : MI := (⟨"RowWalksModel", "canCome", "()Z"⟩, prog_14_method_110_code, 3, (some .boolean))
theorem pl_M_canCome : plainFor m_M_canCome.1 = true := plainFor_of_name (by decide +kernel)
theorem mk_M_canCome : mOK m_M_canCome 0 := ⟨inT9 141 rfl rfl, inT1 13 (by decide +kernel) rfl, by decide +kernel, by decide +kernel, nle rfl⟩
theorem im_M_canCome : Cond.instanceMethod m_M_canCome.1 ∈ TB := inT9 140 (by decide +kernel) rfl
theorem se_M_canCome : Cond.selects m_M_canCome.1.cls m_M_canCome.1 m_M_canCome.1 ∈ TB := inTB 131 (by decide +kernel) rfl
def m_M_keepsExchange : MI := (⟨"RowWalksModel", "keepsExchange", "(III)V"⟩, prog_14_method_111_code, 5, none)
theorem pl_M_keepsExchange : plainFor m_M_keepsExchange.1 = true := plainFor_of_name (by decide +kernel)
theorem mk_M_keepsExchange : mOK m_M_keepsExchange 3 := ⟨inT9 145 rfl rfl, inT1 13 (by decide +kernel) rfl, by decide +kernel, by decide +kernel, nle rfl⟩
theorem im_M_keepsExchange : Cond.instanceMethod m_M_keepsExchange.1 ∈ TB := inT9 144 (by decide +kernel) rfl
theorem se_M_keepsExchange : Cond.selects m_M_keepsExchange.1.cls m_M_keepsExchange.1 m_M_keepsExchange.1 ∈ TB := inTB 132 (by decide +kernel) rfl
def m_M_comesFor : MI := (⟨"RowWalksModel", "comesFor", "(III)V"⟩, prog_14_method_112_code, 7, none)
theorem pl_M_comesFor : plainFor m_M_comesFor.1 = true := plainFor_of_name (by decide +kernel)
theorem mk_M_comesFor : mOK m_M_comesFor 3 := ⟨inT9 137 rfl rfl, inT1 13 (by decide +kernel) rfl, by decide +kernel, by decide +kernel, nle rfl⟩
theorem im_M_comesFor : Cond.instanceMethod m_M_comesFor.1 ∈ TB := inT9 136 (by decide +kernel) rfl
theorem se_M_comesFor : Cond.selects m_M_comesFor.1.cls m_M_comesFor.1 m_M_comesFor.1 ∈ TB := inTB 130 (by decide +kernel) rfl
def m_M_laysExchange : MI := (⟨"RowWalksModel", "laysExchange", "(I)Z"⟩, prog_14_method_113_code, 5, (some .boolean))
theorem pl_M_laysExchange : plainFor m_M_laysExchange.1 = true := plainFor_of_name (by decide +kernel)
theorem mk_M_laysExchange : mOK m_M_laysExchange 1 := ⟨inT9 129 rfl rfl, inT1 13 (by decide +kernel) rfl, by decide +kernel, by decide +kernel, nle rfl⟩
theorem im_M_laysExchange : Cond.instanceMethod m_M_laysExchange.1 ∈ TB := inT9 128 (by decide +kernel) rfl
theorem se_M_laysExchange : Cond.selects m_M_laysExchange.1.cls m_M_laysExchange.1 m_M_laysExchange.1 ∈ TB := inTB 128 (by decide +kernel) rfl
def m_M_exchange : MI := (⟨"RowWalksModel", "exchange", "(II)I"⟩, prog_14_method_114_code, 4, (some .int))
theorem pl_M_exchange : plainFor m_M_exchange.1 = true := plainFor_of_name (by decide +kernel)
theorem mk_M_exchange : mOK m_M_exchange 2 := ⟨inT9 125 rfl rfl, inT1 13 (by decide +kernel) rfl, by decide +kernel, by decide +kernel, nle rfl⟩
theorem im_M_exchange : Cond.instanceMethod m_M_exchange.1 ∈ TB := inT9 123 (by decide +kernel) rfl
theorem se_M_exchange : Cond.selects m_M_exchange.1.cls m_M_exchange.1 m_M_exchange.1 ∈ TB := inT9 124 (by decide +kernel) rfl
def m_M_better : MI := (⟨"RowWalksModel", "better", "(I)I"⟩, prog_14_method_115_code, 3, (some .int))
theorem pl_M_better : plainFor m_M_better.1 = true := plainFor_of_name (by decide +kernel)
theorem mk_M_better : mOK m_M_better 1 := ⟨inT9 149 rfl rfl, inT1 13 (by decide +kernel) rfl, by decide +kernel, by decide +kernel, nle rfl⟩
theorem im_M_better : Cond.instanceMethod m_M_better.1 ∈ TB := inT9 147 (by decide +kernel) rfl
theorem se_M_better : Cond.selects m_M_better.1.cls m_M_better.1 m_M_better.1 ∈ TB := inT9 148 (by decide +kernel) rfl
def m_M_draws : MI := (⟨"RowWalksModel", "draws", "(II)V"⟩, prog_14_method_116_code, 5, none)
theorem pl_M_draws : plainFor m_M_draws.1 = true := plainFor_of_name (by decide +kernel)
theorem mk_M_draws : mOK m_M_draws 2 := ⟨inT9 157 rfl rfl, inT1 13 (by decide +kernel) rfl, by decide +kernel, by decide +kernel, nle rfl⟩
theorem im_M_draws : Cond.instanceMethod m_M_draws.1 ∈ TB := inT9 156 (by decide +kernel) rfl
theorem se_M_draws : Cond.selects m_M_draws.1.cls m_M_draws.1 m_M_draws.1 ∈ TB := inTB 133 (by decide +kernel) rfl
def m_M_drawn : MI := (⟨"RowWalksModel", "drawn", "(III)I"⟩, prog_14_method_117_code, 6, (some .int))
theorem pl_M_drawn : plainFor m_M_drawn.1 = true := plainFor_of_name (by decide +kernel)
theorem mk_M_drawn : mOK m_M_drawn 3 := ⟨inT9 153 rfl rfl, inT1 13 (by decide +kernel) rfl, by decide +kernel, by decide +kernel, nle rfl⟩
theorem im_M_drawn : Cond.instanceMethod m_M_drawn.1 ∈ TB := inT9 151 (by decide +kernel) rfl
theorem se_M_drawn : Cond.selects m_M_drawn.1.cls m_M_drawn.1 m_M_drawn.1 ∈ TB := inT9 152 (by decide +kernel) rfl
def m_M_chance : MI := (⟨"RowWalksModel", "chance", "(II)I"⟩, prog_14_method_118_code, 5, (some .int))
theorem pl_M_chance : plainFor m_M_chance.1 = true := plainFor_of_name (by decide +kernel)
theorem mk_M_chance : mOK m_M_chance 2 := ⟨inT9 161 rfl rfl, inT1 13 (by decide +kernel) rfl, by decide +kernel, by decide +kernel, nle rfl⟩
theorem im_M_chance : Cond.instanceMethod m_M_chance.1 ∈ TB := inT9 159 (by decide +kernel) rfl
theorem se_M_chance : Cond.selects m_M_chance.1.cls m_M_chance.1 m_M_chance.1 ∈ TB := inT9 160 (by decide +kernel) rfl
def m_M_isFar : MI := (⟨"RowWalksModel", "isFar", "(I)Z"⟩, prog_14_method_119_code, 1, (some .boolean))
theorem pl_M_isFar : plainFor m_M_isFar.1 = true := plainFor_of_name (by decide +kernel)
theorem mk_M_isFar : mOK m_M_isFar 1 := ⟨inT9 168 rfl rfl, inT1 13 (by decide +kernel) rfl, by decide +kernel, by decide +kernel, nle rfl⟩
theorem st_M_isFar : Cond.static m_M_isFar.1 ∈ TB := inT9 167 (by decide +kernel) rfl
def m_M_seen : MI := (⟨"RowWalksModel", "seen", "(IIIIZ)I"⟩, prog_14_method_120_code, 6, (some .int))
theorem pl_M_seen : plainFor m_M_seen.1 = true := plainFor_of_name (by decide +kernel)
theorem mk_M_seen : mOK m_M_seen 5 := ⟨inT9 165 rfl rfl, inT1 13 (by decide +kernel) rfl, by decide +kernel, by decide +kernel, nle rfl⟩
theorem im_M_seen : Cond.instanceMethod m_M_seen.1 ∈ TB := inT9 163 (by decide +kernel) rfl
theorem se_M_seen : Cond.selects m_M_seen.1.cls m_M_seen.1 m_M_seen.1 ∈ TB := inT9 164 (by decide +kernel) rfl
def m_M_untell : MI := (⟨"RowWalksModel", "untell", "(I)Z"⟩, prog_14_method_121_code, 2, (some .boolean))
theorem pl_M_untell : plainFor m_M_untell.1 = true := plainFor_of_name (by decide +kernel)
theorem mk_M_untell : mOK m_M_untell 1 := ⟨inT9 172 rfl rfl, inT1 13 (by decide +kernel) rfl, by decide +kernel, by decide +kernel, nle rfl⟩
theorem im_M_untell : Cond.instanceMethod m_M_untell.1 ∈ TB := inT9 170 (by decide +kernel) rfl
theorem se_M_untell : Cond.selects m_M_untell.1.cls m_M_untell.1 m_M_untell.1 ∈ TB := inT9 171 (by decide +kernel) rfl
def m_M_later : MI := (⟨"RowWalksModel", "later", "(I)I"⟩, prog_14_method_122_code, 2, (some .int))
theorem pl_M_later : plainFor m_M_later.1 = true := plainFor_of_name (by decide +kernel)
theorem mk_M_later : mOK m_M_later 1 := ⟨inT9 176 rfl rfl, inT1 13 (by decide +kernel) rfl, by decide +kernel, by decide +kernel, nle rfl⟩
theorem im_M_later : Cond.instanceMethod m_M_later.1 ∈ TB := inT9 174 (by decide +kernel) rfl
theorem se_M_later : Cond.selects m_M_later.1.cls m_M_later.1 m_M_later.1 ∈ TB := inT9 175 (by decide +kernel) rfl
def m_M_doesCount : MI := (⟨"RowWalksModel", "doesCount", "(II)Z"⟩, prog_14_method_123_code, 3, (some .boolean))
theorem pl_M_doesCount : plainFor m_M_doesCount.1 = true := plainFor_of_name (by decide +kernel)
theorem mk_M_doesCount : mOK m_M_doesCount 2 := ⟨inT9 193 rfl rfl, inT1 13 (by decide +kernel) rfl, by decide +kernel, by decide +kernel, nle rfl⟩
theorem im_M_doesCount : Cond.instanceMethod m_M_doesCount.1 ∈ TB := inT9 192 (by decide +kernel) rfl
theorem se_M_doesCount : Cond.selects m_M_doesCount.1.cls m_M_doesCount.1 m_M_doesCount.1 ∈ TB := inTB 136 (by decide +kernel) rfl
def m_M_toldSum : MI := (⟨"RowWalksModel", "toldSum", "(II)I"⟩, prog_14_method_124_code, 5, (some .int))
theorem pl_M_toldSum : plainFor m_M_toldSum.1 = true := plainFor_of_name (by decide +kernel)
theorem mk_M_toldSum : mOK m_M_toldSum 2 := ⟨inT9 205 rfl rfl, inT1 13 (by decide +kernel) rfl, by decide +kernel, by decide +kernel, nle rfl⟩
theorem im_M_toldSum : Cond.instanceMethod m_M_toldSum.1 ∈ TB := inT9 204 (by decide +kernel) rfl
theorem se_M_toldSum : Cond.selects m_M_toldSum.1.cls m_M_toldSum.1 m_M_toldSum.1 ∈ TB := inTB 139 (by decide +kernel) rfl
def m_M_isSum : MI := (⟨"RowWalksModel", "isSum", "(II)Z"⟩, prog_14_method_125_code, 5, (some .boolean))
theorem pl_M_isSum : plainFor m_M_isSum.1 = true := plainFor_of_name (by decide +kernel)
theorem mk_M_isSum : mOK m_M_isSum 2 := ⟨inT9 201 rfl rfl, inT1 13 (by decide +kernel) rfl, by decide +kernel, by decide +kernel, nle rfl⟩
theorem im_M_isSum : Cond.instanceMethod m_M_isSum.1 ∈ TB := inT9 200 (by decide +kernel) rfl
theorem se_M_isSum : Cond.selects m_M_isSum.1.cls m_M_isSum.1 m_M_isSum.1 ∈ TB := inTB 138 (by decide +kernel) rfl
def m_M_hasSum : MI := (⟨"RowWalksModel", "hasSum", "(II)Z"⟩, prog_14_method_126_code, 4, (some .boolean))
theorem pl_M_hasSum : plainFor m_M_hasSum.1 = true := plainFor_of_name (by decide +kernel)
theorem mk_M_hasSum : mOK m_M_hasSum 2 := ⟨inT9 197 rfl rfl, inT1 13 (by decide +kernel) rfl, by decide +kernel, by decide +kernel, nle rfl⟩
theorem im_M_hasSum : Cond.instanceMethod m_M_hasSum.1 ∈ TB := inT9 196 (by decide +kernel) rfl
theorem se_M_hasSum : Cond.selects m_M_hasSum.1.cls m_M_hasSum.1 m_M_hasSum.1 ∈ TB := inTB 137 (by decide +kernel) rfl
def m_M_isTurnable : MI := (⟨"RowWalksModel", "isTurnable", "(I)Z"⟩, prog_14_method_127_code, 4, (some .boolean))
theorem pl_M_isTurnable : plainFor m_M_isTurnable.1 = true := plainFor_of_name (by decide +kernel)
theorem mk_M_isTurnable : mOK m_M_isTurnable 1 := ⟨inT9 189 rfl rfl, inT1 13 (by decide +kernel) rfl, by decide +kernel, by decide +kernel, nle rfl⟩
theorem im_M_isTurnable : Cond.instanceMethod m_M_isTurnable.1 ∈ TB := inT9 188 (by decide +kernel) rfl
theorem se_M_isTurnable : Cond.selects m_M_isTurnable.1.cls m_M_isTurnable.1 m_M_isTurnable.1 ∈ TB := inTB 135 (by decide +kernel) rfl
def m_M_laysFits : MI := (⟨"RowWalksModel", "laysFits", "(I)I"⟩, prog_14_method_128_code, 6, (some .int))
theorem pl_M_laysFits : plainFor m_M_laysFits.1 = true := plainFor_of_name (by decide +kernel)
theorem mk_M_laysFits : mOK m_M_laysFits 1 := ⟨inT9 185 rfl rfl, inT1 13 (by decide +kernel) rfl, by decide +kernel, by decide +kernel, nle rfl⟩
theorem im_M_laysFits : Cond.instanceMethod m_M_laysFits.1 ∈ TB := inT9 184 (by decide +kernel) rfl
theorem se_M_laysFits : Cond.selects m_M_laysFits.1.cls m_M_laysFits.1 m_M_laysFits.1 ∈ TB := inTB 134 (by decide +kernel) rfl
def m_M_fits : MI := (⟨"RowWalksModel", "fits", "(I)I"⟩, prog_14_method_129_code, 2, (some .int))
theorem pl_M_fits : plainFor m_M_fits.1 = true := plainFor_of_name (by decide +kernel)
theorem mk_M_fits : mOK m_M_fits 1 := ⟨inT9 181 rfl rfl, inT1 13 (by decide +kernel) rfl, by decide +kernel, by decide +kernel, nle rfl⟩
theorem im_M_fits : Cond.instanceMethod m_M_fits.1 ∈ TB := inT9 179 (by decide +kernel) rfl
theorem se_M_fits : Cond.selects m_M_fits.1.cls m_M_fits.1 m_M_fits.1 ∈ TB := inT9 180 (by decide +kernel) rfl
def m_M_fit : MI := (⟨"RowWalksModel", "fit", "(II)I"⟩, prog_14_method_130_code, 6, (some .int))
theorem pl_M_fit : plainFor m_M_fit.1 = true := plainFor_of_name (by decide +kernel)
theorem mk_M_fit : mOK m_M_fit 2 := ⟨inT9 209 rfl rfl, inT1 13 (by decide +kernel) rfl, by decide +kernel, by decide +kernel, nle rfl⟩
theorem im_M_fit : Cond.instanceMethod m_M_fit.1 ∈ TB := inT9 207 (by decide +kernel) rfl
theorem se_M_fit : Cond.selects m_M_fit.1.cls m_M_fit.1 m_M_fit.1 ∈ TB := inT9 208 (by decide +kernel) rfl
def m_M_laysFirst : MI := (⟨"RowWalksModel", "laysFirst", "(I)V"⟩, prog_14_method_131_code, 5, none)
theorem pl_M_laysFirst : plainFor m_M_laysFirst.1 = true := plainFor_of_name (by decide +kernel)
theorem mk_M_laysFirst : mOK m_M_laysFirst 1 := ⟨inT9 217 rfl rfl, inT1 13 (by decide +kernel) rfl, by decide +kernel, by decide +kernel, nle rfl⟩
theorem im_M_laysFirst : Cond.instanceMethod m_M_laysFirst.1 ∈ TB := inT9 216 (by decide +kernel) rfl
theorem se_M_laysFirst : Cond.selects m_M_laysFirst.1.cls m_M_laysFirst.1 m_M_laysFirst.1 ∈ TB := inTB 140 (by decide +kernel) rfl
def m_M_ask : MI := (⟨"RowWalksModel", "ask", "(III)I"⟩, prog_14_method_132_code, 10, (some .int))
theorem pl_M_ask : plainFor m_M_ask.1 = true := plainFor_of_name (by decide +kernel)
theorem mk_M_ask : mOK m_M_ask 3 := ⟨inT9 213 rfl rfl, inT1 13 (by decide +kernel) rfl, by decide +kernel, by decide +kernel, nle rfl⟩
theorem im_M_ask : Cond.instanceMethod m_M_ask.1 ∈ TB := inT9 211 (by decide +kernel) rfl
theorem se_M_ask : Cond.selects m_M_ask.1.cls m_M_ask.1 m_M_ask.1 ∈ TB := inT9 212 (by decide +kernel) rfl
def m_M_image : MI := (⟨"RowWalksModel", "image", "(I)I"⟩, prog_14_method_133_code, 3, (some .int))
theorem pl_M_image : plainFor m_M_image.1 = true := plainFor_of_name (by decide +kernel)
theorem mk_M_image : mOK m_M_image 1 := ⟨inT9 221 rfl rfl, inT1 13 (by decide +kernel) rfl, by decide +kernel, by decide +kernel, nle rfl⟩
theorem im_M_image : Cond.instanceMethod m_M_image.1 ∈ TB := inT9 219 (by decide +kernel) rfl
theorem se_M_image : Cond.selects m_M_image.1.cls m_M_image.1 m_M_image.1 ∈ TB := inT9 220 (by decide +kernel) rfl
def m_M_back : MI := (⟨"RowWalksModel", "back", "(I)I"⟩, prog_14_method_134_code, 3, (some .int))
theorem pl_M_back : plainFor m_M_back.1 = true := plainFor_of_name (by decide +kernel)
theorem mk_M_back : mOK m_M_back 1 := ⟨inT9 225 rfl rfl, inT1 13 (by decide +kernel) rfl, by decide +kernel, by decide +kernel, nle rfl⟩
theorem im_M_back : Cond.instanceMethod m_M_back.1 ∈ TB := inT9 223 (by decide +kernel) rfl
theorem se_M_back : Cond.selects m_M_back.1.cls m_M_back.1 m_M_back.1 ∈ TB := inT9 224 (by decide +kernel) rfl
def m_M_greatest : MI := (⟨"RowWalksModel", "greatest", "()I"⟩, prog_14_method_135_code, 4, (some .int))
theorem pl_M_greatest : plainFor m_M_greatest.1 = true := plainFor_of_name (by decide +kernel)
theorem mk_M_greatest : mOK m_M_greatest 0 := ⟨inT9 233 rfl rfl, inT1 13 (by decide +kernel) rfl, by decide +kernel, by decide +kernel, nle rfl⟩
theorem im_M_greatest : Cond.instanceMethod m_M_greatest.1 ∈ TB := inT9 232 (by decide +kernel) rfl
theorem se_M_greatest : Cond.selects m_M_greatest.1.cls m_M_greatest.1 m_M_greatest.1 ∈ TB := inTB 141 (by decide +kernel) rfl
def m_M_about : MI := (⟨"RowWalksModel", "about", "(I)I"⟩, prog_14_method_136_code, 2, (some .int))
theorem pl_M_about : plainFor m_M_about.1 = true := plainFor_of_name (by decide +kernel)
theorem mk_M_about : mOK m_M_about 1 := ⟨inT9 229 rfl rfl, inT1 13 (by decide +kernel) rfl, by decide +kernel, by decide +kernel, nle rfl⟩
theorem im_M_about : Cond.instanceMethod m_M_about.1 ∈ TB := inT9 227 (by decide +kernel) rfl
theorem se_M_about : Cond.selects m_M_about.1.cls m_M_about.1 m_M_about.1 ∈ TB := inT9 228 (by decide +kernel) rfl
def m_JI_bitCount : MI := (⟨"java/lang/Integer", "bitCount", "(I)I"⟩, prog_15_method_49_code, 1, (some .int))
theorem pl_JI_bitCount : plainFor m_JI_bitCount.1 = true := plainFor_of_name (by decide +kernel)
theorem mk_JI_bitCount : mOK m_JI_bitCount 1 := ⟨inT6 2 rfl rfl, inT1 21 (by decide +kernel) rfl, by decide +kernel, by decide +kernel, nle rfl⟩
theorem st_JI_bitCount : Cond.static m_JI_bitCount.1 ∈ TB := inT6 1 (by decide +kernel) rfl
def m_JM_floorDiv : MI := (⟨"java/lang/Math", "floorDiv", "(II)I"⟩, prog_16_method_47_code, 3, (some .int))
theorem pl_JM_floorDiv : plainFor m_JM_floorDiv.1 = true := by decide +kernel
theorem mk_JM_floorDiv : mOK m_JM_floorDiv 2 := ⟨inT4 238 rfl rfl, inT1 20 (by decide +kernel) rfl, by decide +kernel, by decide +kernel, nle rfl⟩
theorem st_JM_floorDiv : Cond.static m_JM_floorDiv.1 ∈ TB := inT4 237 (by decide +kernel) rfl
def m_JM_abs : MI := (⟨"java/lang/Math", "abs", "(I)I"⟩, prog_16_method_59_code, 1, (some .int))
theorem pl_JM_abs : plainFor m_JM_abs.1 = true := by decide +kernel
theorem mk_JM_abs : mOK m_JM_abs 1 := ⟨inT4 205 rfl rfl, inT1 20 (by decide +kernel) rfl, by decide +kernel, by decide +kernel, nle rfl⟩
theorem st_JM_abs : Cond.static m_JM_abs.1 ∈ TB := inT4 204 (by decide +kernel) rfl
def m_JM_abs_JJ : MI := (⟨"java/lang/Math", "abs", "(J)J"⟩, prog_16_method_61_code, 2, (some .long))
theorem pl_JM_abs_JJ : plainFor m_JM_abs_JJ.1 = true := by decide +kernel
theorem mk_JM_abs_JJ : mOK m_JM_abs_JJ 1 := ⟨inT6 38 rfl rfl, inT1 20 (by decide +kernel) rfl, by decide +kernel, by decide +kernel, nle rfl⟩
theorem st_JM_abs_JJ : Cond.static m_JM_abs_JJ.1 ∈ TB := inT6 37 (by decide +kernel) rfl
def m_JM_max : MI := (⟨"java/lang/Math", "max", "(II)I"⟩, prog_16_method_65_code, 2, (some .int))
theorem pl_JM_max : plainFor m_JM_max.1 = true := by decide +kernel
theorem mk_JM_max : mOK m_JM_max 2 := ⟨inT4 106 rfl rfl, inT1 20 (by decide +kernel) rfl, by decide +kernel, by decide +kernel, nle rfl⟩
theorem st_JM_max : Cond.static m_JM_max.1 ∈ TB := inT4 105 (by decide +kernel) rfl
def m_JM_min : MI := (⟨"java/lang/Math", "min", "(II)I"⟩, prog_16_method_69_code, 2, (some .int))
theorem pl_JM_min : plainFor m_JM_min.1 = true := by decide +kernel
theorem mk_JM_min : mOK m_JM_min 2 := ⟨inT5 86 rfl rfl, inT1 20 (by decide +kernel) rfl, by decide +kernel, by decide +kernel, nle rfl⟩
theorem st_JM_min : Cond.static m_JM_min.1 ∈ TB := inT5 85 (by decide +kernel) rfl
def m_JS_length : MI := (⟨"java/lang/String", "length", "()I"⟩, prog_17_method_54_code, 1, (some .int))
theorem pl_JS_length : plainFor m_JS_length.1 = true := plainFor_of_name (by decide +kernel)
theorem mk_JS_length : mOK m_JS_length 0 := ⟨inT3 136 rfl rfl, inT1 15 (by decide +kernel) rfl, by decide +kernel, by decide +kernel, nle rfl⟩
theorem im_JS_length : Cond.instanceMethod m_JS_length.1 ∈ TB := inT3 134 (by decide +kernel) rfl
theorem se_JS_length : Cond.selects m_JS_length.1.cls m_JS_length.1 m_JS_length.1 ∈ TB := inT3 135 (by decide +kernel) rfl
def m_JS_charAt : MI := (⟨"java/lang/String", "charAt", "(I)C"⟩, prog_17_method_56_code, 2, (some .char))
theorem pl_JS_charAt : plainFor m_JS_charAt.1 = true := plainFor_of_name (by decide +kernel)
theorem mk_JS_charAt : mOK m_JS_charAt 1 := ⟨inT3 146 rfl rfl, inT1 15 (by decide +kernel) rfl, by decide +kernel, by decide +kernel, nle rfl⟩
theorem im_JS_charAt : Cond.instanceMethod m_JS_charAt.1 ∈ TB := inT3 144 (by decide +kernel) rfl
theorem se_JS_charAt : Cond.selects m_JS_charAt.1.cls m_JS_charAt.1 m_JS_charAt.1 ∈ TB := inT3 145 (by decide +kernel) rfl
def m_JS_coder : MI := (⟨"java/lang/String", "coder", "()B"⟩, prog_17_method_152_code, 1, (some .byte))
theorem pl_JS_coder : plainFor m_JS_coder.1 = true := plainFor_of_name (by decide +kernel)
theorem mk_JS_coder : mOK m_JS_coder 0 := ⟨inT3 140 rfl rfl, inT1 15 (by decide +kernel) rfl, by decide +kernel, by decide +kernel, nle rfl⟩
theorem im_JS_coder : Cond.instanceMethod m_JS_coder.1 ∈ TB := inT3 138 (by decide +kernel) rfl
theorem se_JS_coder : Cond.selects m_JS_coder.1.cls m_JS_coder.1 m_JS_coder.1 ∈ TB := inT3 139 (by decide +kernel) rfl
def m_JS_isLatin1 : MI := (⟨"java/lang/String", "isLatin1", "()Z"⟩, prog_17_method_154_code, 1, (some .boolean))
theorem pl_JS_isLatin1 : plainFor m_JS_isLatin1.1 = true := plainFor_of_name (by decide +kernel)
theorem mk_JS_isLatin1 : mOK m_JS_isLatin1 0 := ⟨inT3 150 rfl rfl, inT1 15 (by decide +kernel) rfl, by decide +kernel, by decide +kernel, nle rfl⟩
theorem im_JS_isLatin1 : Cond.instanceMethod m_JS_isLatin1.1 ∈ TB := inT3 148 (by decide +kernel) rfl
theorem se_JS_isLatin1 : Cond.selects m_JS_isLatin1.1.cls m_JS_isLatin1.1 m_JS_isLatin1.1 ∈ TB := inT3 149 (by decide +kernel) rfl
def m_JS_checkIndex : MI := (⟨"java/lang/String", "checkIndex", "(II)V"⟩, prog_17_method_155_code, 2, none)
theorem pl_JS_checkIndex : plainFor m_JS_checkIndex.1 = true := plainFor_of_name (by decide +kernel)
theorem mk_JS_checkIndex : mOK m_JS_checkIndex 2 := ⟨inT3 156 rfl rfl, inT1 15 (by decide +kernel) rfl, by decide +kernel, by decide +kernel, nle rfl⟩
theorem st_JS_checkIndex : Cond.static m_JS_checkIndex.1 ∈ TB := inT3 155 (by decide +kernel) rfl
def m_JL_charAt : MI := (⟨"java/lang/StringLatin1", "charAt", "([BI)C"⟩, prog_18_method_2_code, 2, (some .char))
theorem pl_JL_charAt : plainFor m_JL_charAt.1 = true := plainFor_of_name (by decide +kernel)
theorem mk_JL_charAt : mOK m_JL_charAt 2 := ⟨inT3 153 rfl rfl, inT1 16 (by decide +kernel) rfl, by decide +kernel, by decide +kernel, nle rfl⟩
theorem st_JL_charAt : Cond.static m_JL_charAt.1 ∈ TB := inT3 152 (by decide +kernel) rfl
def m_JA_fill : MI := (⟨"java/util/Arrays", "fill", "([JJ)V"⟩, prog_21_method_101_code, 5, none)
theorem pl_JA_fill : plainFor m_JA_fill.1 = true := plainFor_of_name (by decide +kernel)
theorem mk_JA_fill : mOK m_JA_fill 2 := ⟨inT6 32 rfl rfl, inT1 14 (by decide +kernel) rfl, by decide +kernel, by decide +kernel, nle rfl⟩
theorem st_JA_fill : Cond.static m_JA_fill.1 ∈ TB := inT6 31 (by decide +kernel) rfl
def m_JA_fill_IIV : MI := (⟨"java/util/Arrays", "fill", "([II)V"⟩, prog_21_method_103_code, 4, none)
theorem pl_JA_fill_IIV : plainFor m_JA_fill_IIV.1 = true := plainFor_of_name (by decide +kernel)
theorem mk_JA_fill_IIV : mOK m_JA_fill_IIV 2 := ⟨inT3 99 rfl rfl, inT1 14 (by decide +kernel) rfl, by decide +kernel, by decide +kernel, nle rfl⟩
theorem st_JA_fill_IIV : Cond.static m_JA_fill_IIV.1 ∈ TB := inT3 98 (by decide +kernel) rfl
def m_JP_checkIndex : MI := (⟨"jdk/internal/util/Preconditions", "checkIndex", "(IILjava/util/function/BiFunction;)I"⟩, prog_22_method_11_code, 3, (some .int))
theorem pl_JP_checkIndex : plainFor m_JP_checkIndex.1 = true := plainFor_of_name (by decide +kernel)
theorem mk_JP_checkIndex : mOK m_JP_checkIndex 3 := ⟨inT3 161 rfl rfl, inT1 17 (by decide +kernel) rfl, by decide +kernel, by decide +kernel, nle rfl⟩
theorem st_JP_checkIndex : Cond.static m_JP_checkIndex.1 ∈ TB := inT3 160 (by decide +kernel) rfl
def m_L_law : MI := (⟨"RowWalksLaw", "law", "([I)Z"⟩, code, 4, (some .boolean))
theorem kc_m99 : Int32.ofInt (-99) = (-99) := by decide
theorem kb_m99 : (Int8.ofInt (-99)).toInt32 = (-99) := by decide
theorem ks_m99 : (Int16.ofInt (-99)).toInt32 = (-99) := by decide
theorem kc_m80 : Int32.ofInt (-80) = (-80) := by decide
theorem kb_m80 : (Int8.ofInt (-80)).toInt32 = (-80) := by decide
theorem ks_m80 : (Int16.ofInt (-80)).toInt32 = (-80) := by decide
theorem kc_m20 : Int32.ofInt (-20) = (-20) := by decide
theorem kb_m20 : (Int8.ofInt (-20)).toInt32 = (-20) := by decide
theorem ks_m20 : (Int16.ofInt (-20)).toInt32 = (-20) := by decide
theorem kc_m8 : Int32.ofInt (-8) = (-8) := by decide
theorem kb_m8 : (Int8.ofInt (-8)).toInt32 = (-8) := by decide
theorem ks_m8 : (Int16.ofInt (-8)).toInt32 = (-8) := by decide
theorem kc_m5 : Int32.ofInt (-5) = (-5) := by decide
theorem kb_m5 : (Int8.ofInt (-5)).toInt32 = (-5) := by decide
theorem ks_m5 : (Int16.ofInt (-5)).toInt32 = (-5) := by decide
theorem kc_m2 : Int32.ofInt (-2) = (-2) := by decide
theorem kb_m2 : (Int8.ofInt (-2)).toInt32 = (-2) := by decide
theorem ks_m2 : (Int16.ofInt (-2)).toInt32 = (-2) := by decide
theorem kc_m1 : Int32.ofInt (-1) = (-1) := by decide
theorem kb_m1 : (Int8.ofInt (-1)).toInt32 = (-1) := by decide
theorem ks_m1 : (Int16.ofInt (-1)).toInt32 = (-1) := by decide
theorem kc_0 : Int32.ofInt (0) = 0 := by decide
theorem kb_0 : (Int8.ofInt (0)).toInt32 = (0) := by decide
theorem ks_0 : (Int16.ofInt (0)).toInt32 = (0) := by decide
theorem kc_1 : Int32.ofInt (1) = 1 := by decide
theorem kb_1 : (Int8.ofInt (1)).toInt32 = (1) := by decide
theorem ks_1 : (Int16.ofInt (1)).toInt32 = (1) := by decide
theorem kc_2 : Int32.ofInt (2) = 2 := by decide
theorem kb_2 : (Int8.ofInt (2)).toInt32 = (2) := by decide
theorem ks_2 : (Int16.ofInt (2)).toInt32 = (2) := by decide
theorem kc_3 : Int32.ofInt (3) = 3 := by decide
theorem kb_3 : (Int8.ofInt (3)).toInt32 = (3) := by decide
theorem ks_3 : (Int16.ofInt (3)).toInt32 = (3) := by decide
theorem kc_4 : Int32.ofInt (4) = 4 := by decide
theorem kb_4 : (Int8.ofInt (4)).toInt32 = (4) := by decide
theorem ks_4 : (Int16.ofInt (4)).toInt32 = (4) := by decide
theorem kc_5 : Int32.ofInt (5) = 5 := by decide
theorem kb_5 : (Int8.ofInt (5)).toInt32 = (5) := by decide
theorem ks_5 : (Int16.ofInt (5)).toInt32 = (5) := by decide
theorem kc_6 : Int32.ofInt (6) = 6 := by decide
theorem kb_6 : (Int8.ofInt (6)).toInt32 = (6) := by decide
theorem ks_6 : (Int16.ofInt (6)).toInt32 = (6) := by decide
theorem kc_7 : Int32.ofInt (7) = 7 := by decide
theorem kb_7 : (Int8.ofInt (7)).toInt32 = (7) := by decide
theorem ks_7 : (Int16.ofInt (7)).toInt32 = (7) := by decide
theorem kc_8 : Int32.ofInt (8) = 8 := by decide
theorem kb_8 : (Int8.ofInt (8)).toInt32 = (8) := by decide
theorem ks_8 : (Int16.ofInt (8)).toInt32 = (8) := by decide
theorem kc_9 : Int32.ofInt (9) = 9 := by decide
theorem kb_9 : (Int8.ofInt (9)).toInt32 = (9) := by decide
theorem ks_9 : (Int16.ofInt (9)).toInt32 = (9) := by decide
theorem kc_10 : Int32.ofInt (10) = 10 := by decide
theorem kb_10 : (Int8.ofInt (10)).toInt32 = (10) := by decide
theorem ks_10 : (Int16.ofInt (10)).toInt32 = (10) := by decide
theorem kc_12 : Int32.ofInt (12) = 12 := by decide
theorem kb_12 : (Int8.ofInt (12)).toInt32 = (12) := by decide
theorem ks_12 : (Int16.ofInt (12)).toInt32 = (12) := by decide
theorem kc_13 : Int32.ofInt (13) = 13 := by decide
theorem kb_13 : (Int8.ofInt (13)).toInt32 = (13) := by decide
theorem ks_13 : (Int16.ofInt (13)).toInt32 = (13) := by decide
theorem kc_15 : Int32.ofInt (15) = 15 := by decide
theorem kb_15 : (Int8.ofInt (15)).toInt32 = (15) := by decide
theorem ks_15 : (Int16.ofInt (15)).toInt32 = (15) := by decide
theorem kc_16 : Int32.ofInt (16) = 16 := by decide
theorem kb_16 : (Int8.ofInt (16)).toInt32 = (16) := by decide
theorem ks_16 : (Int16.ofInt (16)).toInt32 = (16) := by decide
theorem kc_20 : Int32.ofInt (20) = 20 := by decide
theorem kb_20 : (Int8.ofInt (20)).toInt32 = (20) := by decide
theorem ks_20 : (Int16.ofInt (20)).toInt32 = (20) := by decide
theorem kc_24 : Int32.ofInt (24) = 24 := by decide
theorem kb_24 : (Int8.ofInt (24)).toInt32 = (24) := by decide
theorem ks_24 : (Int16.ofInt (24)).toInt32 = (24) := by decide
theorem kc_25 : Int32.ofInt (25) = 25 := by decide
theorem kb_25 : (Int8.ofInt (25)).toInt32 = (25) := by decide
theorem ks_25 : (Int16.ofInt (25)).toInt32 = (25) := by decide
theorem kc_31 : Int32.ofInt (31) = 31 := by decide
theorem kb_31 : (Int8.ofInt (31)).toInt32 = (31) := by decide
theorem ks_31 : (Int16.ofInt (31)).toInt32 = (31) := by decide
theorem kc_32 : Int32.ofInt (32) = 32 := by decide
theorem kb_32 : (Int8.ofInt (32)).toInt32 = (32) := by decide
theorem ks_32 : (Int16.ofInt (32)).toInt32 = (32) := by decide
theorem kc_35 : Int32.ofInt (35) = 35 := by decide
theorem kb_35 : (Int8.ofInt (35)).toInt32 = (35) := by decide
theorem ks_35 : (Int16.ofInt (35)).toInt32 = (35) := by decide
theorem kc_36 : Int32.ofInt (36) = 36 := by decide
theorem kb_36 : (Int8.ofInt (36)).toInt32 = (36) := by decide
theorem ks_36 : (Int16.ofInt (36)).toInt32 = (36) := by decide
theorem kc_39 : Int32.ofInt (39) = 39 := by decide
theorem kb_39 : (Int8.ofInt (39)).toInt32 = (39) := by decide
theorem ks_39 : (Int16.ofInt (39)).toInt32 = (39) := by decide
theorem kc_40 : Int32.ofInt (40) = 40 := by decide
theorem kb_40 : (Int8.ofInt (40)).toInt32 = (40) := by decide
theorem ks_40 : (Int16.ofInt (40)).toInt32 = (40) := by decide
theorem kc_41 : Int32.ofInt (41) = 41 := by decide
theorem kb_41 : (Int8.ofInt (41)).toInt32 = (41) := by decide
theorem ks_41 : (Int16.ofInt (41)).toInt32 = (41) := by decide
theorem kc_44 : Int32.ofInt (44) = 44 := by decide
theorem kb_44 : (Int8.ofInt (44)).toInt32 = (44) := by decide
theorem ks_44 : (Int16.ofInt (44)).toInt32 = (44) := by decide
theorem kc_45 : Int32.ofInt (45) = 45 := by decide
theorem kb_45 : (Int8.ofInt (45)).toInt32 = (45) := by decide
theorem ks_45 : (Int16.ofInt (45)).toInt32 = (45) := by decide
theorem kc_48 : Int32.ofInt (48) = 48 := by decide
theorem kb_48 : (Int8.ofInt (48)).toInt32 = (48) := by decide
theorem ks_48 : (Int16.ofInt (48)).toInt32 = (48) := by decide
theorem kc_57 : Int32.ofInt (57) = 57 := by decide
theorem kb_57 : (Int8.ofInt (57)).toInt32 = (57) := by decide
theorem ks_57 : (Int16.ofInt (57)).toInt32 = (57) := by decide
theorem kc_59 : Int32.ofInt (59) = 59 := by decide
theorem kb_59 : (Int8.ofInt (59)).toInt32 = (59) := by decide
theorem ks_59 : (Int16.ofInt (59)).toInt32 = (59) := by decide
theorem kc_60 : Int32.ofInt (60) = 60 := by decide
theorem kb_60 : (Int8.ofInt (60)).toInt32 = (60) := by decide
theorem ks_60 : (Int16.ofInt (60)).toInt32 = (60) := by decide
theorem kc_63 : Int32.ofInt (63) = 63 := by decide
theorem kb_63 : (Int8.ofInt (63)).toInt32 = (63) := by decide
theorem ks_63 : (Int16.ofInt (63)).toInt32 = (63) := by decide
theorem kc_64 : Int32.ofInt (64) = 64 := by decide
theorem kb_64 : (Int8.ofInt (64)).toInt32 = (64) := by decide
theorem ks_64 : (Int16.ofInt (64)).toInt32 = (64) := by decide
theorem kc_71 : Int32.ofInt (71) = 71 := by decide
theorem kb_71 : (Int8.ofInt (71)).toInt32 = (71) := by decide
theorem ks_71 : (Int16.ofInt (71)).toInt32 = (71) := by decide
theorem kc_80 : Int32.ofInt (80) = 80 := by decide
theorem kb_80 : (Int8.ofInt (80)).toInt32 = (80) := by decide
theorem ks_80 : (Int16.ofInt (80)).toInt32 = (80) := by decide
theorem kc_81 : Int32.ofInt (81) = 81 := by decide
theorem kb_81 : (Int8.ofInt (81)).toInt32 = (81) := by decide
theorem ks_81 : (Int16.ofInt (81)).toInt32 = (81) := by decide
theorem kc_88 : Int32.ofInt (88) = 88 := by decide
theorem kb_88 : (Int8.ofInt (88)).toInt32 = (88) := by decide
theorem ks_88 : (Int16.ofInt (88)).toInt32 = (88) := by decide
theorem kc_97 : Int32.ofInt (97) = 97 := by decide
theorem kb_97 : (Int8.ofInt (97)).toInt32 = (97) := by decide
theorem ks_97 : (Int16.ofInt (97)).toInt32 = (97) := by decide
theorem kc_99 : Int32.ofInt (99) = 99 := by decide
theorem kb_99 : (Int8.ofInt (99)).toInt32 = (99) := by decide
theorem ks_99 : (Int16.ofInt (99)).toInt32 = (99) := by decide
theorem kc_100 : Int32.ofInt (100) = 100 := by decide
theorem kb_100 : (Int8.ofInt (100)).toInt32 = (100) := by decide
theorem ks_100 : (Int16.ofInt (100)).toInt32 = (100) := by decide
theorem kc_121 : Int32.ofInt (121) = 121 := by decide
theorem kb_121 : (Int8.ofInt (121)).toInt32 = (121) := by decide
theorem ks_121 : (Int16.ofInt (121)).toInt32 = (121) := by decide
theorem kc_122 : Int32.ofInt (122) = 122 := by decide
theorem kb_122 : (Int8.ofInt (122)).toInt32 = (122) := by decide
theorem ks_122 : (Int16.ofInt (122)).toInt32 = (122) := by decide
theorem kc_137 : Int32.ofInt (137) = 137 := by decide
theorem ks_137 : (Int16.ofInt (137)).toInt32 = (137) := by decide
theorem kc_160 : Int32.ofInt (160) = 160 := by decide
theorem ks_160 : (Int16.ofInt (160)).toInt32 = (160) := by decide
theorem kc_162 : Int32.ofInt (162) = 162 := by decide
theorem ks_162 : (Int16.ofInt (162)).toInt32 = (162) := by decide
theorem kc_165 : Int32.ofInt (165) = 165 := by decide
theorem ks_165 : (Int16.ofInt (165)).toInt32 = (165) := by decide
theorem kc_200 : Int32.ofInt (200) = 200 := by decide
theorem ks_200 : (Int16.ofInt (200)).toInt32 = (200) := by decide
theorem kc_255 : Int32.ofInt (255) = 255 := by decide
theorem ks_255 : (Int16.ofInt (255)).toInt32 = (255) := by decide
theorem kc_343 : Int32.ofInt (343) = 343 := by decide
theorem ks_343 : (Int16.ofInt (343)).toInt32 = (343) := by decide
theorem kc_369 : Int32.ofInt (369) = 369 := by decide
theorem ks_369 : (Int16.ofInt (369)).toInt32 = (369) := by decide
theorem kc_700 : Int32.ofInt (700) = 700 := by decide
theorem ks_700 : (Int16.ofInt (700)).toInt32 = (700) := by decide
theorem kc_880 : Int32.ofInt (880) = 880 := by decide
theorem ks_880 : (Int16.ofInt (880)).toInt32 = (880) := by decide
theorem kc_1000 : Int32.ofInt (1000) = 1000 := by decide
theorem ks_1000 : (Int16.ofInt (1000)).toInt32 = (1000) := by decide
theorem kc_1296 : Int32.ofInt (1296) = 1296 := by decide
theorem ks_1296 : (Int16.ofInt (1296)).toInt32 = (1296) := by decide
theorem kc_2058 : Int32.ofInt (2058) = 2058 := by decide
theorem ks_2058 : (Int16.ofInt (2058)).toInt32 = (2058) := by decide
theorem kc_6000 : Int32.ofInt (6000) = 6000 := by decide
theorem ks_6000 : (Int16.ofInt (6000)).toInt32 = (6000) := by decide
theorem kc_6561 : Int32.ofInt (6561) = 6561 := by decide
theorem ks_6561 : (Int16.ofInt (6561)).toInt32 = (6561) := by decide
theorem kc_7919 : Int32.ofInt (7919) = 7919 := by decide
theorem ks_7919 : (Int16.ofInt (7919)).toInt32 = (7919) := by decide
theorem kc_9999 : Int32.ofInt (9999) = 9999 := by decide
theorem ks_9999 : (Int16.ofInt (9999)).toInt32 = (9999) := by decide
theorem kc_10007 : Int32.ofInt (10007) = 10007 := by decide
theorem ks_10007 : (Int16.ofInt (10007)).toInt32 = (10007) := by decide
