theorem im_Rd_isReserved : Cond.instanceMethod m_Rd_isReserved.1 ∈ TB := inTB 835 (by decide +kernel) rfl
theorem se_Rd_isReserved : Cond.selects m_Rd_isReserved.1.cls m_Rd_isReserved.1 m_Rd_isReserved.1 ∈ TB := inTB 11 (by decide +kernel) rfl
def m_Rd_isNumber : MI := (⟨"RowWalks$Reader", "isNumber", "(II)Z"⟩, prog_10_method_11_code, 4, (some .boolean))
theorem pl_Rd_isNumber : plainName m_Rd_isNumber.1.cls = true := by decide +kernel
theorem mk_Rd_isNumber : mOK m_Rd_isNumber 2 := ⟨inTB 811 (by decide +kernel) rfl, inTB 146 (by decide +kernel) rfl, by decide +kernel, by decide +kernel, nle rfl⟩
theorem im_Rd_isNumber : Cond.instanceMethod m_Rd_isNumber.1 ∈ TB := inTB 810 (by decide +kernel) rfl
theorem se_Rd_isNumber : Cond.selects m_Rd_isNumber.1.cls m_Rd_isNumber.1 m_Rd_isNumber.1 ∈ TB := inTB 6 (by decide +kernel) rfl
def m_Rd_readSigned : MI := (⟨"RowWalks$Reader", "readSigned", "(II)Z"⟩, prog_10_method_12_code, 4, (some .boolean))
theorem pl_Rd_readSigned : plainName m_Rd_readSigned.1.cls = true := by decide +kernel
theorem mk_Rd_readSigned : mOK m_Rd_readSigned 2 := ⟨inTB 847 (by decide +kernel) rfl, inTB 146 (by decide +kernel) rfl, by decide +kernel, by decide +kernel, nle rfl⟩
theorem im_Rd_readSigned : Cond.instanceMethod m_Rd_readSigned.1 ∈ TB := inTB 846 (by decide +kernel) rfl
theorem se_Rd_readSigned : Cond.selects m_Rd_readSigned.1.cls m_Rd_readSigned.1 m_Rd_readSigned.1 ∈ TB := inTB 12 (by decide +kernel) rfl
def m_Rd_endLine : MI := (⟨"RowWalks$Reader", "endLine", "()Z"⟩, prog_10_method_13_code, 1, (some .boolean))
theorem pl_Rd_endLine : plainName m_Rd_endLine.1.cls = true := by decide +kernel
theorem mk_Rd_endLine : mOK m_Rd_endLine 0 := ⟨inTB 823 (by decide +kernel) rfl, inTB 146 (by decide +kernel) rfl, by decide +kernel, by decide +kernel, nle rfl⟩
theorem im_Rd_endLine : Cond.instanceMethod m_Rd_endLine.1 ∈ TB := inTB 822 (by decide +kernel) rfl
theorem se_Rd_endLine : Cond.selects m_Rd_endLine.1.cls m_Rd_endLine.1 m_Rd_endLine.1 ∈ TB := inTB 8 (by decide +kernel) rfl
def m_St_init : MI := (⟨"RowWalks$Strip", "<init>", "(LRowWalks$Columns;)V"⟩, prog_11_method_1_code, 2, none)
theorem pl_St_init : plainName m_St_init.1.cls = true := by decide +kernel
theorem mk_St_init : mOK m_St_init 1 := ⟨inTB 350 (by decide +kernel) rfl, inTB 149 (by decide +kernel) rfl, by decide +kernel, by decide +kernel, nle rfl⟩
theorem im_St_init : Cond.instanceMethod m_St_init.1 ∈ TB := inTB 349 (by decide +kernel) rfl
def m_St_sweep : MI := (⟨"RowWalks$Strip", "sweep", "(II)V"⟩, prog_11_method_2_code, 6, none)
theorem pl_St_sweep : plainName m_St_sweep.1.cls = true := by decide +kernel
theorem mk_St_sweep : mOK m_St_sweep 2 := ⟨inTB 1086 (by decide +kernel) rfl, inTB 149 (by decide +kernel) rfl, by decide +kernel, by decide +kernel, nle rfl⟩
theorem im_St_sweep : Cond.instanceMethod m_St_sweep.1 ∈ TB := inTB 1084 (by decide +kernel) rfl
theorem se_St_sweep : Cond.selects m_St_sweep.1.cls m_St_sweep.1 m_St_sweep.1 ∈ TB := inTB 1085 (by decide +kernel) rfl
def m_St_makeRoom : MI := (⟨"RowWalks$Strip", "makeRoom", "()V"⟩, prog_11_method_3_code, 3, none)
theorem pl_St_makeRoom : plainName m_St_makeRoom.1.cls = true := by decide +kernel
theorem mk_St_makeRoom : mOK m_St_makeRoom 0 := ⟨inTB 1090 (by decide +kernel) rfl, inTB 149 (by decide +kernel) rfl, by decide +kernel, by decide +kernel, nle rfl⟩
theorem im_St_makeRoom : Cond.instanceMethod m_St_makeRoom.1 ∈ TB := inTB 1089 (by decide +kernel) rfl
theorem se_St_makeRoom : Cond.selects m_St_makeRoom.1.cls m_St_makeRoom.1 m_St_makeRoom.1 ∈ TB := inTB 24 (by decide +kernel) rfl
def m_St_setBounds : MI := (⟨"RowWalks$Strip", "setBounds", "(II)V"⟩, prog_11_method_4_code, 8, none)
theorem pl_St_setBounds : plainName m_St_setBounds.1.cls = true := by decide +kernel
theorem mk_St_setBounds : mOK m_St_setBounds 2 := ⟨inTB 1094 (by decide +kernel) rfl, inTB 149 (by decide +kernel) rfl, by decide +kernel, by decide +kernel, nle rfl⟩
theorem im_St_setBounds : Cond.instanceMethod m_St_setBounds.1 ∈ TB := inTB 1093 (by decide +kernel) rfl
theorem se_St_setBounds : Cond.selects m_St_setBounds.1.cls m_St_setBounds.1 m_St_setBounds.1 ∈ TB := inTB 25 (by decide +kernel) rfl
def m_St_layer : MI := (⟨"RowWalks$Strip", "layer", "(I)I"⟩, prog_11_method_5_code, 1, (some .int))
theorem pl_St_layer : plainName m_St_layer.1.cls = true := by decide +kernel
theorem mk_St_layer : mOK m_St_layer 1 := ⟨inTB 1116 (by decide +kernel) rfl, inTB 149 (by decide +kernel) rfl, by decide +kernel, by decide +kernel, nle rfl⟩
theorem st_St_layer : Cond.static m_St_layer.1 ∈ TB := inTB 1115 (by decide +kernel) rfl
def m_St_start : MI := (⟨"RowWalks$Strip", "start", "()I"⟩, prog_11_method_6_code, 2, (some .int))
theorem pl_St_start : plainName m_St_start.1.cls = true := by decide +kernel
theorem mk_St_start : mOK m_St_start 0 := ⟨inTB 1104 (by decide +kernel) rfl, inTB 149 (by decide +kernel) rfl, by decide +kernel, by decide +kernel, nle rfl⟩
theorem im_St_start : Cond.instanceMethod m_St_start.1 ∈ TB := inTB 1103 (by decide +kernel) rfl
theorem se_St_start : Cond.selects m_St_start.1.cls m_St_start.1 m_St_start.1 ∈ TB := inTB 26 (by decide +kernel) rfl
def m_St_cellOf : MI := (⟨"RowWalks$Strip", "cellOf", "(I)I"⟩, prog_11_method_7_code, 5, (some .int))
theorem pl_St_cellOf : plainName m_St_cellOf.1.cls = true := by decide +kernel
theorem mk_St_cellOf : mOK m_St_cellOf 1 := ⟨inTB 1109 (by decide +kernel) rfl, inTB 149 (by decide +kernel) rfl, by decide +kernel, by decide +kernel, nle rfl⟩
theorem im_St_cellOf : Cond.instanceMethod m_St_cellOf.1 ∈ TB := inTB 1108 (by decide +kernel) rfl
theorem se_St_cellOf : Cond.selects m_St_cellOf.1.cls m_St_cellOf.1 m_St_cellOf.1 ∈ TB := inTB 27 (by decide +kernel) rfl
def m_St_spread : MI := (⟨"RowWalks$Strip", "spread", "(II)I"⟩, prog_11_method_8_code, 8, (some .int))
theorem pl_St_spread : plainName m_St_spread.1.cls = true := by decide +kernel
theorem mk_St_spread : mOK m_St_spread 2 := ⟨inTB 1113 (by decide +kernel) rfl, inTB 149 (by decide +kernel) rfl, by decide +kernel, by decide +kernel, nle rfl⟩
theorem im_St_spread : Cond.instanceMethod m_St_spread.1 ∈ TB := inTB 1112 (by decide +kernel) rfl
theorem se_St_spread : Cond.selects m_St_spread.1.cls m_St_spread.1 m_St_spread.1 ∈ TB := inTB 28 (by decide +kernel) rfl
def m_St_leave : MI := (⟨"RowWalks$Strip", "leave", "(III)I"⟩, prog_11_method_9_code, 18, (some .int))
theorem pl_St_leave : plainName m_St_leave.1.cls = true := by decide +kernel
theorem mk_St_leave : mOK m_St_leave 3 := ⟨inTB 1120 (by decide +kernel) rfl, inTB 149 (by decide +kernel) rfl, by decide +kernel, by decide +kernel, nle rfl⟩
theorem im_St_leave : Cond.instanceMethod m_St_leave.1 ∈ TB := inTB 1119 (by decide +kernel) rfl
theorem se_St_leave : Cond.selects m_St_leave.1.cls m_St_leave.1 m_St_leave.1 ∈ TB := inTB 29 (by decide +kernel) rfl
def m_St_reach : MI := (⟨"RowWalks$Strip", "reach", "(IIII)Z"⟩, prog_11_method_10_code, 8, (some .boolean))
theorem pl_St_reach : plainName m_St_reach.1.cls = true := by decide +kernel
theorem mk_St_reach : mOK m_St_reach 4 := ⟨inTB 1125 (by decide +kernel) rfl, inTB 149 (by decide +kernel) rfl, by decide +kernel, by decide +kernel, nle rfl⟩
theorem im_St_reach : Cond.instanceMethod m_St_reach.1 ∈ TB := inTB 1124 (by decide +kernel) rfl
theorem se_St_reach : Cond.selects m_St_reach.1.cls m_St_reach.1 m_St_reach.1 ∈ TB := inTB 30 (by decide +kernel) rfl
def m_St_choose : MI := (⟨"RowWalks$Strip", "choose", "(III)V"⟩, prog_11_method_11_code, 6, none)
theorem pl_St_choose : plainName m_St_choose.1.cls = true := by decide +kernel
theorem mk_St_choose : mOK m_St_choose 3 := ⟨inTB 1134 (by decide +kernel) rfl, inTB 149 (by decide +kernel) rfl, by decide +kernel, by decide +kernel, nle rfl⟩
theorem im_St_choose : Cond.instanceMethod m_St_choose.1 ∈ TB := inTB 1133 (by decide +kernel) rfl
theorem se_St_choose : Cond.selects m_St_choose.1.cls m_St_choose.1 m_St_choose.1 ∈ TB := inTB 32 (by decide +kernel) rfl
def m_St_choiceAt : MI := (⟨"RowWalks$Strip", "choiceAt", "(II)I"⟩, prog_11_method_12_code, 4, (some .int))
theorem pl_St_choiceAt : plainName m_St_choiceAt.1.cls = true := by decide +kernel
theorem mk_St_choiceAt : mOK m_St_choiceAt 2 := ⟨inTB 1130 (by decide +kernel) rfl, inTB 149 (by decide +kernel) rfl, by decide +kernel, by decide +kernel, nle rfl⟩
theorem im_St_choiceAt : Cond.instanceMethod m_St_choiceAt.1 ∈ TB := inTB 1129 (by decide +kernel) rfl
theorem se_St_choiceAt : Cond.selects m_St_choiceAt.1.cls m_St_choiceAt.1 m_St_choiceAt.1 ∈ TB := inTB 31 (by decide +kernel) rfl
def m_St_clear : MI := (⟨"RowWalks$Strip", "clear", "(II)V"⟩, prog_11_method_13_code, 5, none)
theorem pl_St_clear : plainName m_St_clear.1.cls = true := by decide +kernel
theorem mk_St_clear : mOK m_St_clear 2 := ⟨inTB 1140 (by decide +kernel) rfl, inTB 149 (by decide +kernel) rfl, by decide +kernel, by decide +kernel, nle rfl⟩
theorem im_St_clear : Cond.instanceMethod m_St_clear.1 ∈ TB := inTB 1139 (by decide +kernel) rfl
theorem se_St_clear : Cond.selects m_St_clear.1.cls m_St_clear.1 m_St_clear.1 ∈ TB := inTB 33 (by decide +kernel) rfl
def m_St_readEnd : MI := (⟨"RowWalks$Strip", "readEnd", "(I)V"⟩, prog_11_method_14_code, 3, none)
theorem pl_St_readEnd : plainName m_St_readEnd.1.cls = true := by decide +kernel
theorem mk_St_readEnd : mOK m_St_readEnd 1 := ⟨inTB 1144 (by decide +kernel) rfl, inTB 149 (by decide +kernel) rfl, by decide +kernel, by decide +kernel, nle rfl⟩
theorem im_St_readEnd : Cond.instanceMethod m_St_readEnd.1 ∈ TB := inTB 1143 (by decide +kernel) rfl
theorem se_St_readEnd : Cond.selects m_St_readEnd.1.cls m_St_readEnd.1 m_St_readEnd.1 ∈ TB := inTB 34 (by decide +kernel) rfl
def m_St_atNeed : MI := (⟨"RowWalks$Strip", "atNeed", "()V"⟩, prog_11_method_15_code, 2, none)
theorem pl_St_atNeed : plainName m_St_atNeed.1.cls = true := by decide +kernel
theorem mk_St_atNeed : mOK m_St_atNeed 0 := ⟨inTB 1148 (by decide +kernel) rfl, inTB 149 (by decide +kernel) rfl, by decide +kernel, by decide +kernel, nle rfl⟩
theorem im_St_atNeed : Cond.instanceMethod m_St_atNeed.1 ∈ TB := inTB 1147 (by decide +kernel) rfl
theorem se_St_atNeed : Cond.selects m_St_atNeed.1.cls m_St_atNeed.1 m_St_atNeed.1 ∈ TB := inTB 35 (by decide +kernel) rfl
def m_St_columnAt : MI := (⟨"RowWalks$Strip", "columnAt", "(I)I"⟩, prog_11_method_16_code, 5, (some .int))
theorem pl_St_columnAt : plainName m_St_columnAt.1.cls = true := by decide +kernel
theorem mk_St_columnAt : mOK m_St_columnAt 1 := ⟨inTB 1165 (by decide +kernel) rfl, inTB 149 (by decide +kernel) rfl, by decide +kernel, by decide +kernel, nle rfl⟩
theorem im_St_columnAt : Cond.instanceMethod m_St_columnAt.1 ∈ TB := inTB 1163 (by decide +kernel) rfl
theorem se_St_columnAt : Cond.selects m_St_columnAt.1.cls m_St_columnAt.1 m_St_columnAt.1 ∈ TB := inTB 1164 (by decide +kernel) rfl
def m_Tp_init : MI := (⟨"RowWalks$Tape", "<init>", "()V"⟩, prog_12_method_1_code, 1, none)
theorem pl_Tp_init : plainName m_Tp_init.1.cls = true := by decide +kernel
theorem mk_Tp_init : mOK m_Tp_init 0 := ⟨inTB 176 (by decide +kernel) rfl, inTB 144 (by decide +kernel) rfl, by decide +kernel, by decide +kernel, nle rfl⟩
theorem im_Tp_init : Cond.instanceMethod m_Tp_init.1 ∈ TB := inTB 175 (by decide +kernel) rfl
def m_Tp_put : MI := (⟨"RowWalks$Tape", "put", "(I)V"⟩, prog_12_method_2_code, 3, none)
theorem pl_Tp_put : plainName m_Tp_put.1.cls = true := by decide +kernel
theorem mk_Tp_put : mOK m_Tp_put 1 := ⟨inTB 702 (by decide +kernel) rfl, inTB 144 (by decide +kernel) rfl, by decide +kernel, by decide +kernel, nle rfl⟩
theorem im_Tp_put : Cond.instanceMethod m_Tp_put.1 ∈ TB := inTB 700 (by decide +kernel) rfl
theorem se_Tp_put : Cond.selects m_Tp_put.1.cls m_Tp_put.1 m_Tp_put.1 ∈ TB := inTB 701 (by decide +kernel) rfl
def m_Tp_rewind : MI := (⟨"RowWalks$Tape", "rewind", "()V"⟩, prog_12_method_3_code, 1, none)
theorem pl_Tp_rewind : plainName m_Tp_rewind.1.cls = true := by decide +kernel
theorem mk_Tp_rewind : mOK m_Tp_rewind 0 := ⟨inTB 725 (by decide +kernel) rfl, inTB 144 (by decide +kernel) rfl, by decide +kernel, by decide +kernel, nle rfl⟩
theorem im_Tp_rewind : Cond.instanceMethod m_Tp_rewind.1 ∈ TB := inTB 723 (by decide +kernel) rfl
theorem se_Tp_rewind : Cond.selects m_Tp_rewind.1.cls m_Tp_rewind.1 m_Tp_rewind.1 ∈ TB := inTB 724 (by decide +kernel) rfl
def m_Tp_advance : MI := (⟨"RowWalks$Tape", "advance", "()V"⟩, prog_12_method_4_code, 1, none)
theorem pl_Tp_advance : plainName m_Tp_advance.1.cls = true := by decide +kernel
theorem mk_Tp_advance : mOK m_Tp_advance 0 := ⟨inTB 729 (by decide +kernel) rfl, inTB 144 (by decide +kernel) rfl, by decide +kernel, by decide +kernel, nle rfl⟩
theorem im_Tp_advance : Cond.instanceMethod m_Tp_advance.1 ∈ TB := inTB 727 (by decide +kernel) rfl
theorem se_Tp_advance : Cond.selects m_Tp_advance.1.cls m_Tp_advance.1 m_Tp_advance.1 ∈ TB := inTB 728 (by decide +kernel) rfl
def m_Tp_isLetter : MI := (⟨"RowWalks$Tape", "isLetter", "(I)Z"⟩, prog_12_method_5_code, 2, (some .boolean))
theorem pl_Tp_isLetter : plainName m_Tp_isLetter.1.cls = true := by decide +kernel
theorem mk_Tp_isLetter : mOK m_Tp_isLetter 1 := ⟨inTB 733 (by decide +kernel) rfl, inTB 144 (by decide +kernel) rfl, by decide +kernel, by decide +kernel, nle rfl⟩
theorem im_Tp_isLetter : Cond.instanceMethod m_Tp_isLetter.1 ∈ TB := inTB 732 (by decide +kernel) rfl
theorem se_Tp_isLetter : Cond.selects m_Tp_isLetter.1.cls m_Tp_isLetter.1 m_Tp_isLetter.1 ∈ TB := inTB 0 (by decide +kernel) rfl
def m_Tp_isDigit : MI := (⟨"RowWalks$Tape", "isDigit", "(I)Z"⟩, prog_12_method_6_code, 2, (some .boolean))
theorem pl_Tp_isDigit : plainName m_Tp_isDigit.1.cls = true := by decide +kernel
theorem mk_Tp_isDigit : mOK m_Tp_isDigit 1 := ⟨inTB 741 (by decide +kernel) rfl, inTB 144 (by decide +kernel) rfl, by decide +kernel, by decide +kernel, nle rfl⟩
theorem im_Tp_isDigit : Cond.instanceMethod m_Tp_isDigit.1 ∈ TB := inTB 740 (by decide +kernel) rfl
theorem se_Tp_isDigit : Cond.selects m_Tp_isDigit.1.cls m_Tp_isDigit.1 m_Tp_isDigit.1 ∈ TB := inTB 2 (by decide +kernel) rfl
def m_Tp_takeWord : MI := (⟨"RowWalks$Tape", "takeWord", "()V"⟩, prog_12_method_7_code, 1, none)
theorem pl_Tp_takeWord : plainName m_Tp_takeWord.1.cls = true := by decide +kernel
theorem mk_Tp_takeWord : mOK m_Tp_takeWord 0 := ⟨inTB 737 (by decide +kernel) rfl, inTB 144 (by decide +kernel) rfl, by decide +kernel, by decide +kernel, nle rfl⟩
theorem im_Tp_takeWord : Cond.instanceMethod m_Tp_takeWord.1 ∈ TB := inTB 736 (by decide +kernel) rfl
theorem se_Tp_takeWord : Cond.selects m_Tp_takeWord.1.cls m_Tp_takeWord.1 m_Tp_takeWord.1 ∈ TB := inTB 1 (by decide +kernel) rfl
def m_Tp_takeDigits : MI := (⟨"RowWalks$Tape", "takeDigits", "()V"⟩, prog_12_method_8_code, 1, none)
theorem pl_Tp_takeDigits : plainName m_Tp_takeDigits.1.cls = true := by decide +kernel
theorem mk_Tp_takeDigits : mOK m_Tp_takeDigits 0 := ⟨inTB 745 (by decide +kernel) rfl, inTB 144 (by decide +kernel) rfl, by decide +kernel, by decide +kernel, nle rfl⟩
theorem im_Tp_takeDigits : Cond.instanceMethod m_Tp_takeDigits.1 ∈ TB := inTB 744 (by decide +kernel) rfl
theorem se_Tp_takeDigits : Cond.selects m_Tp_takeDigits.1.cls m_Tp_takeDigits.1 m_Tp_takeDigits.1 ∈ TB := inTB 3 (by decide +kernel) rfl
def m_Tp_value : MI := (⟨"RowWalks$Tape", "value", "()I"⟩, prog_12_method_9_code, 3, (some .int))
theorem pl_Tp_value : plainName m_Tp_value.1.cls = true := by decide +kernel
theorem mk_Tp_value : mOK m_Tp_value 0 := ⟨inTB 819 (by decide +kernel) rfl, inTB 144 (by decide +kernel) rfl, by decide +kernel, by decide +kernel, nle rfl⟩
theorem im_Tp_value : Cond.instanceMethod m_Tp_value.1 ∈ TB := inTB 817 (by decide +kernel) rfl
theorem se_Tp_value : Cond.selects m_Tp_value.1.cls m_Tp_value.1 m_Tp_value.1 ∈ TB := inTB 818 (by decide +kernel) rfl
def m_Tp_isWord : MI := (⟨"RowWalks$Tape", "isWord", "(Ljava/lang/String;)Z"⟩, prog_12_method_10_code, 3, (some .boolean))
theorem pl_Tp_isWord : plainName m_Tp_isWord.1.cls = true := by decide +kernel
theorem mk_Tp_isWord : mOK m_Tp_isWord 1 := ⟨inTB 754 (by decide +kernel) rfl, inTB 144 (by decide +kernel) rfl, by decide +kernel, by decide +kernel, nle rfl⟩
theorem im_Tp_isWord : Cond.instanceMethod m_Tp_isWord.1 ∈ TB := inTB 752 (by decide +kernel) rfl
theorem se_Tp_isWord : Cond.selects m_Tp_isWord.1.cls m_Tp_isWord.1 m_Tp_isWord.1 ∈ TB := inTB 753 (by decide +kernel) rfl
def m_Tp_isSameAs : MI := (⟨"RowWalks$Tape", "isSameAs", "(II)Z"⟩, prog_12_method_11_code, 4, (some .boolean))
theorem pl_Tp_isSameAs : plainName m_Tp_isSameAs.1.cls = true := by decide +kernel
theorem mk_Tp_isSameAs : mOK m_Tp_isSameAs 2 := ⟨inTB 843 (by decide +kernel) rfl, inTB 144 (by decide +kernel) rfl, by decide +kernel, by decide +kernel, nle rfl⟩
theorem im_Tp_isSameAs : Cond.instanceMethod m_Tp_isSameAs.1 ∈ TB := inTB 841 (by decide +kernel) rfl
theorem se_Tp_isSameAs : Cond.selects m_Tp_isSameAs.1.cls m_Tp_isSameAs.1 m_Tp_isSameAs.1 ∈ TB := inTB 842 (by decide +kernel) rfl
def m_X_init : MI := (⟨"RowWalks", "<init>", "()V"⟩, prog_1_method_1_code, 2, none)
theorem pl_X_init : plainName m_X_init.1.cls = true := by decide +kernel
theorem mk_X_init : mOK m_X_init 0 := ⟨inTB 168 (by decide +kernel) rfl, inTB 143 (by decide +kernel) rfl, by decide +kernel, by decide +kernel, nle rfl⟩
theorem im_X_init : Cond.instanceMethod m_X_init.1 ∈ TB := inTB 167 (by decide +kernel) rfl
def m_X_feed : MI := (⟨"RowWalks", "feed", "(IIIII)I"⟩, prog_1_method_2_code, 6, (some .int))
theorem pl_X_feed : plainName m_X_feed.1.cls = true := by decide +kernel
theorem mk_X_feed : mOK m_X_feed 5 := ⟨inTB 698 (by decide +kernel) rfl, inTB 143 (by decide +kernel) rfl, by decide +kernel, by decide +kernel, nle rfl⟩
theorem im_X_feed : Cond.instanceMethod m_X_feed.1 ∈ TB := inTB 696 (by decide +kernel) rfl
theorem se_X_feed : Cond.selects m_X_feed.1.cls m_X_feed.1 m_X_feed.1 ∈ TB := inTB 697 (by decide +kernel) rfl
def m_X_end : MI := (⟨"RowWalks", "end", "(I)I"⟩, prog_1_method_3_code, 2, (some .int))
theorem pl_X_end : plainName m_X_end.1.cls = true := by decide +kernel
theorem mk_X_end : mOK m_X_end 1 := ⟨inTB 706 (by decide +kernel) rfl, inTB 143 (by decide +kernel) rfl, by decide +kernel, by decide +kernel, nle rfl⟩
theorem im_X_end : Cond.instanceMethod m_X_end.1 ∈ TB := inTB 704 (by decide +kernel) rfl
theorem se_X_end : Cond.selects m_X_end.1.cls m_X_end.1 m_X_end.1 ∈ TB := inTB 705 (by decide +kernel) rfl
def m_X_program : MI := (⟨"RowWalks", "program", "()I"⟩, prog_1_method_4_code, 3, (some .int))
theorem pl_X_program : plainName m_X_program.1.cls = true := by decide +kernel
theorem mk_X_program : mOK m_X_program 0 := ⟨inTB 710 (by decide +kernel) rfl, inTB 143 (by decide +kernel) rfl, by decide +kernel, by decide +kernel, nle rfl⟩
theorem im_X_program : Cond.instanceMethod m_X_program.1 ∈ TB := inTB 708 (by decide +kernel) rfl
theorem se_X_program : Cond.selects m_X_program.1.cls m_X_program.1 m_X_program.1 ∈ TB := inTB 709 (by decide +kernel) rfl
def m_X_fault : MI := (⟨"RowWalks", "fault", "(I)I"⟩, prog_1_method_5_code, 2, (some .int))
theorem pl_X_fault : plainName m_X_fault.1.cls = true := by decide +kernel
theorem mk_X_fault : mOK m_X_fault 1 := ⟨inTB 879 (by decide +kernel) rfl, inTB 143 (by decide +kernel) rfl, by decide +kernel, by decide +kernel, nle rfl⟩
theorem im_X_fault : Cond.instanceMethod m_X_fault.1 ∈ TB := inTB 877 (by decide +kernel) rfl
theorem se_X_fault : Cond.selects m_X_fault.1.cls m_X_fault.1 m_X_fault.1 ∈ TB := inTB 878 (by decide +kernel) rfl
def m_X_number : MI := (⟨"RowWalks", "number", "(II)I"⟩, prog_1_method_6_code, 3, (some .int))
theorem pl_X_number : plainName m_X_number.1.cls = true := by decide +kernel
theorem mk_X_number : mOK m_X_number 2 := ⟨inTB 883 (by decide +kernel) rfl, inTB 143 (by decide +kernel) rfl, by decide +kernel, by decide +kernel, nle rfl⟩
theorem im_X_number : Cond.instanceMethod m_X_number.1 ∈ TB := inTB 881 (by decide +kernel) rfl
theorem se_X_number : Cond.selects m_X_number.1.cls m_X_number.1 m_X_number.1 ∈ TB := inTB 882 (by decide +kernel) rfl
def m_X_gain : MI := (⟨"RowWalks", "gain", "(I)I"⟩, prog_1_method_7_code, 2, (some .int))
theorem pl_X_gain : plainName m_X_gain.1.cls = true := by decide +kernel
theorem mk_X_gain : mOK m_X_gain 1 := ⟨inTB 900 (by decide +kernel) rfl, inTB 143 (by decide +kernel) rfl, by decide +kernel, by decide +kernel, nle rfl⟩
theorem im_X_gain : Cond.instanceMethod m_X_gain.1 ∈ TB := inTB 898 (by decide +kernel) rfl
theorem se_X_gain : Cond.selects m_X_gain.1.cls m_X_gain.1 m_X_gain.1 ∈ TB := inTB 899 (by decide +kernel) rfl
def m_X_need : MI := (⟨"RowWalks", "need", "(I)I"⟩, prog_1_method_8_code, 2, (some .int))
theorem pl_X_need : plainName m_X_need.1.cls = true := by decide +kernel
theorem mk_X_need : mOK m_X_need 1 := ⟨inTB 908 (by decide +kernel) rfl, inTB 143 (by decide +kernel) rfl, by decide +kernel, by decide +kernel, nle rfl⟩
theorem im_X_need : Cond.instanceMethod m_X_need.1 ∈ TB := inTB 906 (by decide +kernel) rfl
theorem se_X_need : Cond.selects m_X_need.1.cls m_X_need.1 m_X_need.1 ∈ TB := inTB 907 (by decide +kernel) rfl
def m_X_change : MI := (⟨"RowWalks", "change", "(III)I"⟩, prog_1_method_9_code, 4, (some .int))
theorem pl_X_change : plainName m_X_change.1.cls = true := by decide +kernel
theorem mk_X_change : mOK m_X_change 3 := ⟨inTB 916 (by decide +kernel) rfl, inTB 143 (by decide +kernel) rfl, by decide +kernel, by decide +kernel, nle rfl⟩
theorem im_X_change : Cond.instanceMethod m_X_change.1 ∈ TB := inTB 914 (by decide +kernel) rfl
theorem se_X_change : Cond.selects m_X_change.1.cls m_X_change.1 m_X_change.1 ∈ TB := inTB 915 (by decide +kernel) rfl
def m_X_worth : MI := (⟨"RowWalks", "worth", "(II)I"⟩, prog_1_method_10_code, 3, (some .int))
theorem pl_X_worth : plainName m_X_worth.1.cls = true := by decide +kernel
theorem mk_X_worth : mOK m_X_worth 2 := ⟨inTB 937 (by decide +kernel) rfl, inTB 143 (by decide +kernel) rfl, by decide +kernel, by decide +kernel, nle rfl⟩
theorem im_X_worth : Cond.instanceMethod m_X_worth.1 ∈ TB := inTB 935 (by decide +kernel) rfl
theorem se_X_worth : Cond.selects m_X_worth.1.cls m_X_worth.1 m_X_worth.1 ∈ TB := inTB 936 (by decide +kernel) rfl
def m_X_want : MI := (⟨"RowWalks", "want", "(II)I"⟩, prog_1_method_11_code, 3, (some .int))
theorem pl_X_want : plainName m_X_want.1.cls = true := by decide +kernel
theorem mk_X_want : mOK m_X_want 2 := ⟨inTB 941 (by decide +kernel) rfl, inTB 143 (by decide +kernel) rfl, by decide +kernel, by decide +kernel, nle rfl⟩
theorem im_X_want : Cond.instanceMethod m_X_want.1 ∈ TB := inTB 939 (by decide +kernel) rfl
theorem se_X_want : Cond.selects m_X_want.1.cls m_X_want.1 m_X_want.1 ∈ TB := inTB 940 (by decide +kernel) rfl
def m_X_allow : MI := (⟨"RowWalks", "allow", "(I)I"⟩, prog_1_method_12_code, 2, (some .int))
theorem pl_X_allow : plainName m_X_allow.1.cls = true := by decide +kernel
theorem mk_X_allow : mOK m_X_allow 1 := ⟨inTB 945 (by decide +kernel) rfl, inTB 143 (by decide +kernel) rfl, by decide +kernel, by decide +kernel, nle rfl⟩
theorem im_X_allow : Cond.instanceMethod m_X_allow.1 ∈ TB := inTB 943 (by decide +kernel) rfl
theorem se_X_allow : Cond.selects m_X_allow.1.cls m_X_allow.1 m_X_allow.1 ∈ TB := inTB 944 (by decide +kernel) rfl
def m_X_hold : MI := (⟨"RowWalks", "hold", "(II)I"⟩, prog_1_method_13_code, 4, (some .int))
theorem pl_X_hold : plainName m_X_hold.1.cls = true := by decide +kernel
theorem mk_X_hold : mOK m_X_hold 2 := ⟨inTB 949 (by decide +kernel) rfl, inTB 143 (by decide +kernel) rfl, by decide +kernel, by decide +kernel, nle rfl⟩
theorem im_X_hold : Cond.instanceMethod m_X_hold.1 ∈ TB := inTB 947 (by decide +kernel) rfl
theorem se_X_hold : Cond.selects m_X_hold.1.cls m_X_hold.1 m_X_hold.1 ∈ TB := inTB 948 (by decide +kernel) rfl
def m_X_turn : MI := (⟨"RowWalks", "turn", "(IIII)I"⟩, prog_1_method_14_code, 6, (some .int))
theorem pl_X_turn : plainName m_X_turn.1.cls = true := by decide +kernel
theorem mk_X_turn : mOK m_X_turn 4 := ⟨inTB 920 (by decide +kernel) rfl, inTB 143 (by decide +kernel) rfl, by decide +kernel, by decide +kernel, nle rfl⟩
theorem im_X_turn : Cond.instanceMethod m_X_turn.1 ∈ TB := inTB 919 (by decide +kernel) rfl
theorem se_X_turn : Cond.selects m_X_turn.1.cls m_X_turn.1 m_X_turn.1 ∈ TB := inTB 15 (by decide +kernel) rfl
def m_X_better : MI := (⟨"RowWalks", "better", "(I)I"⟩, prog_1_method_15_code, 2, (some .int))
theorem pl_X_better : plainName m_X_better.1.cls = true := by decide +kernel
theorem mk_X_better : mOK m_X_better 1 := ⟨inTB 953 (by decide +kernel) rfl, inTB 143 (by decide +kernel) rfl, by decide +kernel, by decide +kernel, nle rfl⟩
theorem im_X_better : Cond.instanceMethod m_X_better.1 ∈ TB := inTB 951 (by decide +kernel) rfl
theorem se_X_better : Cond.selects m_X_better.1.cls m_X_better.1 m_X_better.1 ∈ TB := inTB 952 (by decide +kernel) rfl
def m_X_undo : MI := (⟨"RowWalks", "undo", "()Z"⟩, prog_1_method_16_code, 1, (some .boolean))
theorem pl_X_undo : plainName m_X_undo.1.cls = true := by decide +kernel
theorem mk_X_undo : mOK m_X_undo 0 := ⟨inTB 1024 (by decide +kernel) rfl, inTB 143 (by decide +kernel) rfl, by decide +kernel, by decide +kernel, nle rfl⟩
theorem im_X_undo : Cond.instanceMethod m_X_undo.1 ∈ TB := inTB 1022 (by decide +kernel) rfl
theorem se_X_undo : Cond.selects m_X_undo.1.cls m_X_undo.1 m_X_undo.1 ∈ TB := inTB 1023 (by decide +kernel) rfl
def m_X_redo : MI := (⟨"RowWalks", "redo", "()Z"⟩, prog_1_method_17_code, 1, (some .boolean))
theorem pl_X_redo : plainName m_X_redo.1.cls = true := by decide +kernel
theorem mk_X_redo : mOK m_X_redo 0 := ⟨inTB 1033 (by decide +kernel) rfl, inTB 143 (by decide +kernel) rfl, by decide +kernel, by decide +kernel, nle rfl⟩
theorem im_X_redo : Cond.instanceMethod m_X_redo.1 ∈ TB := inTB 1031 (by decide +kernel) rfl
theorem se_X_redo : Cond.selects m_X_redo.1.cls m_X_redo.1 m_X_redo.1 ∈ TB := inTB 1032 (by decide +kernel) rfl
def m_X_held : MI := (⟨"RowWalks", "held", "(I)I"⟩, prog_1_method_18_code, 2, (some .int))
theorem pl_X_held : plainName m_X_held.1.cls = true := by decide +kernel
theorem mk_X_held : mOK m_X_held 1 := ⟨inTB 1041 (by decide +kernel) rfl, inTB 143 (by decide +kernel) rfl, by decide +kernel, by decide +kernel, nle rfl⟩
theorem im_X_held : Cond.instanceMethod m_X_held.1 ∈ TB := inTB 1039 (by decide +kernel) rfl
theorem se_X_held : Cond.selects m_X_held.1.cls m_X_held.1 m_X_held.1 ∈ TB := inTB 1040 (by decide +kernel) rfl
def m_X_holding : MI := (⟨"RowWalks", "holding", "(I)I"⟩, prog_1_method_19_code, 2, (some .int))
theorem pl_X_holding : plainName m_X_holding.1.cls = true := by decide +kernel
theorem mk_X_holding : mOK m_X_holding 1 := ⟨inTB 1046 (by decide +kernel) rfl, inTB 143 (by decide +kernel) rfl, by decide +kernel, by decide +kernel, nle rfl⟩
theorem im_X_holding : Cond.instanceMethod m_X_holding.1 ∈ TB := inTB 1044 (by decide +kernel) rfl
theorem se_X_holding : Cond.selects m_X_holding.1.cls m_X_holding.1 m_X_holding.1 ∈ TB := inTB 1045 (by decide +kernel) rfl
def m_X_exchange : MI := (⟨"RowWalks", "exchange", "(II)I"⟩, prog_1_method_20_code, 3, (some .int))
theorem pl_X_exchange : plainName m_X_exchange.1.cls = true := by decide +kernel
theorem mk_X_exchange : mOK m_X_exchange 2 := ⟨inTB 1071 (by decide +kernel) rfl, inTB 143 (by decide +kernel) rfl, by decide +kernel, by decide +kernel, nle rfl⟩
theorem im_X_exchange : Cond.instanceMethod m_X_exchange.1 ∈ TB := inTB 1069 (by decide +kernel) rfl
theorem se_X_exchange : Cond.selects m_X_exchange.1.cls m_X_exchange.1 m_X_exchange.1 ∈ TB := inTB 1070 (by decide +kernel) rfl
def m_X_isLength : MI := (⟨"RowWalks", "isLength", "(I)Z"⟩, prog_1_method_21_code, 1, (some .boolean))
theorem pl_X_isLength : plainName m_X_isLength.1.cls = true := by decide +kernel
theorem mk_X_isLength : mOK m_X_isLength 1 := ⟨inTB 1082 (by decide +kernel) rfl, inTB 143 (by decide +kernel) rfl, by decide +kernel, by decide +kernel, nle rfl⟩
theorem st_X_isLength : Cond.static m_X_isLength.1 ∈ TB := inTB 1081 (by decide +kernel) rfl
def m_X_isStrip : MI := (⟨"RowWalks", "isStrip", "(II)Z"⟩, prog_1_method_22_code, 2, (some .boolean))
theorem pl_X_isStrip : plainName m_X_isStrip.1.cls = true := by decide +kernel
theorem mk_X_isStrip : mOK m_X_isStrip 2 := ⟨inTB 1079 (by decide +kernel) rfl, inTB 143 (by decide +kernel) rfl, by decide +kernel, by decide +kernel, nle rfl⟩
theorem st_X_isStrip : Cond.static m_X_isStrip.1 ∈ TB := inTB 1078 (by decide +kernel) rfl
def m_X_strip : MI := (⟨"RowWalks", "strip", "(III)I"⟩, prog_1_method_23_code, 4, (some .int))
theorem pl_X_strip : plainName m_X_strip.1.cls = true := by decide +kernel
theorem mk_X_strip : mOK m_X_strip 3 := ⟨inTB 1076 (by decide +kernel) rfl, inTB 143 (by decide +kernel) rfl, by decide +kernel, by decide +kernel, nle rfl⟩
theorem im_X_strip : Cond.instanceMethod m_X_strip.1 ∈ TB := inTB 1074 (by decide +kernel) rfl
theorem se_X_strip : Cond.selects m_X_strip.1.cls m_X_strip.1 m_X_strip.1 ∈ TB := inTB 1075 (by decide +kernel) rfl
def m_X_walks : MI := (⟨"RowWalks", "walks", "(II)J"⟩, prog_1_method_24_code, 3, (some .long))
theorem pl_X_walks : plainName m_X_walks.1.cls = true := by decide +kernel
theorem mk_X_walks : mOK m_X_walks 2 := ⟨inTB 1152 (by decide +kernel) rfl, inTB 143 (by decide +kernel) rfl, by decide +kernel, by decide +kernel, nle rfl⟩
theorem im_X_walks : Cond.instanceMethod m_X_walks.1 ∈ TB := inTB 1150 (by decide +kernel) rfl
theorem se_X_walks : Cond.selects m_X_walks.1.cls m_X_walks.1 m_X_walks.1 ∈ TB := inTB 1151 (by decide +kernel) rfl
def m_X_best : MI := (⟨"RowWalks", "best", "(II)I"⟩, prog_1_method_25_code, 3, (some .int))
theorem pl_X_best : plainName m_X_best.1.cls = true := by decide +kernel
theorem mk_X_best : mOK m_X_best 2 := ⟨inTB 1157 (by decide +kernel) rfl, inTB 143 (by decide +kernel) rfl, by decide +kernel, by decide +kernel, nle rfl⟩
theorem im_X_best : Cond.instanceMethod m_X_best.1 ∈ TB := inTB 1155 (by decide +kernel) rfl
theorem se_X_best : Cond.selects m_X_best.1.cls m_X_best.1 m_X_best.1 ∈ TB := inTB 1156 (by decide +kernel) rfl
def m_X_step : MI := (⟨"RowWalks", "step", "(III)I"⟩, prog_1_method_26_code, 4, (some .int))
theorem pl_X_step : plainName m_X_step.1.cls = true := by decide +kernel
theorem mk_X_step : mOK m_X_step 3 := ⟨inTB 1161 (by decide +kernel) rfl, inTB 143 (by decide +kernel) rfl, by decide +kernel, by decide +kernel, nle rfl⟩
theorem im_X_step : Cond.instanceMethod m_X_step.1 ∈ TB := inTB 1159 (by decide +kernel) rfl
theorem se_X_step : Cond.selects m_X_step.1.cls m_X_step.1 m_X_step.1 ∈ TB := inTB 1160 (by decide +kernel) rfl
def m_X_narrow : MI := (⟨"RowWalks", "narrow", "(I)I"⟩, prog_1_method_27_code, 3, (some .int))
theorem pl_X_narrow : plainName m_X_narrow.1.cls = true := by decide +kernel
theorem mk_X_narrow : mOK m_X_narrow 1 := ⟨inTB 1171 (by decide +kernel) rfl, inTB 143 (by decide +kernel) rfl, by decide +kernel, by decide +kernel, nle rfl⟩
theorem im_X_narrow : Cond.instanceMethod m_X_narrow.1 ∈ TB := inTB 1169 (by decide +kernel) rfl
theorem se_X_narrow : Cond.selects m_X_narrow.1.cls m_X_narrow.1 m_X_narrow.1 ∈ TB := inTB 1170 (by decide +kernel) rfl
def m_X_fewest : MI := (⟨"RowWalks", "fewest", "()I"⟩, prog_1_method_28_code, 2, (some .int))
theorem pl_X_fewest : plainName m_X_fewest.1.cls = true := by decide +kernel
theorem mk_X_fewest : mOK m_X_fewest 0 := ⟨inTB 1214 (by decide +kernel) rfl, inTB 143 (by decide +kernel) rfl, by decide +kernel, by decide +kernel, nle rfl⟩
theorem im_X_fewest : Cond.instanceMethod m_X_fewest.1 ∈ TB := inTB 1212 (by decide +kernel) rfl
theorem se_X_fewest : Cond.selects m_X_fewest.1.cls m_X_fewest.1 m_X_fewest.1 ∈ TB := inTB 1213 (by decide +kernel) rfl
def m_X_countPlans : MI := (⟨"RowWalks", "countPlans", "(II)I"⟩, prog_1_method_29_code, 4, (some .int))
theorem pl_X_countPlans : plainName m_X_countPlans.1.cls = true := by decide +kernel
theorem mk_X_countPlans : mOK m_X_countPlans 2 := ⟨inTB 1175 (by decide +kernel) rfl, inTB 143 (by decide +kernel) rfl, by decide +kernel, by decide +kernel, nle rfl⟩
theorem im_X_countPlans : Cond.instanceMethod m_X_countPlans.1 ∈ TB := inTB 1174 (by decide +kernel) rfl
theorem se_X_countPlans : Cond.selects m_X_countPlans.1.cls m_X_countPlans.1 m_X_countPlans.1 ∈ TB := inTB 36 (by decide +kernel) rfl
def m_X_optimum : MI := (⟨"RowWalks", "optimum", "(I)I"⟩, prog_1_method_30_code, 2, (some .int))
theorem pl_X_optimum : plainName m_X_optimum.1.cls = true := by decide +kernel
theorem mk_X_optimum : mOK m_X_optimum 1 := ⟨inTB 1218 (by decide +kernel) rfl, inTB 143 (by decide +kernel) rfl, by decide +kernel, by decide +kernel, nle rfl⟩
theorem im_X_optimum : Cond.instanceMethod m_X_optimum.1 ∈ TB := inTB 1216 (by decide +kernel) rfl
theorem se_X_optimum : Cond.selects m_X_optimum.1.cls m_X_optimum.1 m_X_optimum.1 ∈ TB := inTB 1217 (by decide +kernel) rfl
def m_X_plan : MI := (⟨"RowWalks", "plan", "(I)I"⟩, prog_1_method_31_code, 2, (some .int))
theorem pl_X_plan : plainName m_X_plan.1.cls = true := by decide +kernel
theorem mk_X_plan : mOK m_X_plan 1 := ⟨inTB 1271 (by decide +kernel) rfl, inTB 143 (by decide +kernel) rfl, by decide +kernel, by decide +kernel, nle rfl⟩
theorem im_X_plan : Cond.instanceMethod m_X_plan.1 ∈ TB := inTB 1269 (by decide +kernel) rfl
theorem se_X_plan : Cond.selects m_X_plan.1.cls m_X_plan.1 m_X_plan.1 ∈ TB := inTB 1270 (by decide +kernel) rfl
def m_X_plans : MI := (⟨"RowWalks", "plans", "(I)I"⟩, prog_1_method_32_code, 2, (some .int))
theorem pl_X_plans : plainName m_X_plans.1.cls = true := by decide +kernel
theorem mk_X_plans : mOK m_X_plans 1 := ⟨inTB 1279 (by decide +kernel) rfl, inTB 143 (by decide +kernel) rfl, by decide +kernel, by decide +kernel, nle rfl⟩
theorem im_X_plans : Cond.instanceMethod m_X_plans.1 ∈ TB := inTB 1277 (by decide +kernel) rfl
theorem se_X_plans : Cond.selects m_X_plans.1.cls m_X_plans.1 m_X_plans.1 ∈ TB := inTB 1278 (by decide +kernel) rfl
def m_X_order : MI := (⟨"RowWalks", "order", "(I)I"⟩, prog_1_method_33_code, 2, (some .int))
theorem pl_X_order : plainName m_X_order.1.cls = true := by decide +kernel
theorem mk_X_order : mOK m_X_order 1 := ⟨inTB 1284 (by decide +kernel) rfl, inTB 143 (by decide +kernel) rfl, by decide +kernel, by decide +kernel, nle rfl⟩
theorem im_X_order : Cond.instanceMethod m_X_order.1 ∈ TB := inTB 1282 (by decide +kernel) rfl
theorem se_X_order : Cond.selects m_X_order.1.cls m_X_order.1 m_X_order.1 ∈ TB := inTB 1283 (by decide +kernel) rfl
def m_X_strays : MI := (⟨"RowWalks", "strays", "()I"⟩, prog_1_method_34_code, 1, (some .int))
theorem pl_X_strays : plainName m_X_strays.1.cls = true := by decide +kernel
theorem mk_X_strays : mOK m_X_strays 0 := ⟨inTB 1292 (by decide +kernel) rfl, inTB 143 (by decide +kernel) rfl, by decide +kernel, by decide +kernel, nle rfl⟩
theorem im_X_strays : Cond.instanceMethod m_X_strays.1 ∈ TB := inTB 1290 (by decide +kernel) rfl
theorem se_X_strays : Cond.selects m_X_strays.1.cls m_X_strays.1 m_X_strays.1 ∈ TB := inTB 1291 (by decide +kernel) rfl
def m_X_sorted : MI := (⟨"RowWalks", "sorted", "()I"⟩, prog_1_method_35_code, 1, (some .int))
theorem pl_X_sorted : plainName m_X_sorted.1.cls = true := by decide +kernel
theorem mk_X_sorted : mOK m_X_sorted 0 := ⟨inTB 1296 (by decide +kernel) rfl, inTB 143 (by decide +kernel) rfl, by decide +kernel, by decide +kernel, nle rfl⟩
theorem im_X_sorted : Cond.instanceMethod m_X_sorted.1 ∈ TB := inTB 1294 (by decide +kernel) rfl
theorem se_X_sorted : Cond.selects m_X_sorted.1.cls m_X_sorted.1 m_X_sorted.1 ∈ TB := inTB 1295 (by decide +kernel) rfl
def m_X_doubled : MI := (⟨"RowWalks", "doubled", "(III)I"⟩, prog_1_method_36_code, 4, (some .int))
theorem pl_X_doubled : plainName m_X_doubled.1.cls = true := by decide +kernel
theorem mk_X_doubled : mOK m_X_doubled 3 := ⟨inTB 1300 (by decide +kernel) rfl, inTB 143 (by decide +kernel) rfl, by decide +kernel, by decide +kernel, nle rfl⟩
theorem im_X_doubled : Cond.instanceMethod m_X_doubled.1 ∈ TB := inTB 1298 (by decide +kernel) rfl
theorem se_X_doubled : Cond.selects m_X_doubled.1.cls m_X_doubled.1 m_X_doubled.1 ∈ TB := inTB 1299 (by decide +kernel) rfl
def m_X_relaxed : MI := (⟨"RowWalks", "relaxed", "(I)I"⟩, prog_1_method_37_code, 2, (some .int))
theorem pl_X_relaxed : plainName m_X_relaxed.1.cls = true := by decide +kernel
theorem mk_X_relaxed : mOK m_X_relaxed 1 := ⟨inTB 1332 (by decide +kernel) rfl, inTB 143 (by decide +kernel) rfl, by decide +kernel, by decide +kernel, nle rfl⟩
theorem im_X_relaxed : Cond.instanceMethod m_X_relaxed.1 ∈ TB := inTB 1330 (by decide +kernel) rfl
theorem se_X_relaxed : Cond.selects m_X_relaxed.1.cls m_X_relaxed.1 m_X_relaxed.1 ∈ TB := inTB 1331 (by decide +kernel) rfl
def m_X_fraction : MI := (⟨"RowWalks", "fraction", "(II)I"⟩, prog_1_method_38_code, 3, (some .int))
theorem pl_X_fraction : plainName m_X_fraction.1.cls = true := by decide +kernel
theorem mk_X_fraction : mOK m_X_fraction 2 := ⟨inTB 1386 (by decide +kernel) rfl, inTB 143 (by decide +kernel) rfl, by decide +kernel, by decide +kernel, nle rfl⟩
theorem im_X_fraction : Cond.instanceMethod m_X_fraction.1 ∈ TB := inTB 1384 (by decide +kernel) rfl
theorem se_X_fraction : Cond.selects m_X_fraction.1.cls m_X_fraction.1 m_X_fraction.1 ∈ TB := inTB 1385 (by decide +kernel) rfl
def m_X_apart : MI := (⟨"RowWalks", "apart", "(I)I"⟩, prog_1_method_39_code, 5, (some .int))
theorem pl_X_apart : plainName m_X_apart.1.cls = true := by decide +kernel
theorem mk_X_apart : mOK m_X_apart 1 := ⟨inTB 1398 (by decide +kernel) rfl, inTB 143 (by decide +kernel) rfl, by decide +kernel, by decide +kernel, nle rfl⟩
theorem im_X_apart : Cond.instanceMethod m_X_apart.1 ∈ TB := inTB 1396 (by decide +kernel) rfl
theorem se_X_apart : Cond.selects m_X_apart.1.cls m_X_apart.1 m_X_apart.1 ∈ TB := inTB 1397 (by decide +kernel) rfl
def m_X_part : MI := (⟨"RowWalks", "part", "(JJI)I"⟩, prog_1_method_40_code, 7, (some .int))
theorem pl_X_part : plainName m_X_part.1.cls = true := by decide +kernel
theorem mk_X_part : mOK m_X_part 3 := ⟨inTB 1376 (by decide +kernel) rfl, inTB 143 (by decide +kernel) rfl, by decide +kernel, by decide +kernel, nle rfl⟩
theorem st_X_part : Cond.static m_X_part.1 ∈ TB := inTB 1375 (by decide +kernel) rfl
def m_X_commonDivisor : MI := (⟨"RowWalks", "commonDivisor", "(JJ)J"⟩, prog_1_method_41_code, 7, (some .long))
theorem pl_X_commonDivisor : plainName m_X_commonDivisor.1.cls = true := by decide +kernel
theorem mk_X_commonDivisor : mOK m_X_commonDivisor 2 := ⟨inTB 1382 (by decide +kernel) rfl, inTB 143 (by decide +kernel) rfl, by decide +kernel, by decide +kernel, nle rfl⟩
theorem st_X_commonDivisor : Cond.static m_X_commonDivisor.1 ∈ TB := inTB 1381 (by decide +kernel) rfl
def m_X_corners : MI := (⟨"RowWalks", "corners", "()I"⟩, prog_1_method_42_code, 1, (some .int))
theorem pl_X_corners : plainName m_X_corners.1.cls = true := by decide +kernel
theorem mk_X_corners : mOK m_X_corners 0 := ⟨inTB 1402 (by decide +kernel) rfl, inTB 143 (by decide +kernel) rfl, by decide +kernel, by decide +kernel, nle rfl⟩
theorem im_X_corners : Cond.instanceMethod m_X_corners.1 ∈ TB := inTB 1400 (by decide +kernel) rfl
theorem se_X_corners : Cond.selects m_X_corners.1.cls m_X_corners.1 m_X_corners.1 ∈ TB := inTB 1401 (by decide +kernel) rfl
def m_X_drawn : MI := (⟨"RowWalks", "drawn", "(III)I"⟩, prog_1_method_43_code, 5, (some .int))
theorem pl_X_drawn : plainName m_X_drawn.1.cls = true := by decide +kernel
theorem mk_X_drawn : mOK m_X_drawn 3 := ⟨inTB 1406 (by decide +kernel) rfl, inTB 143 (by decide +kernel) rfl, by decide +kernel, by decide +kernel, nle rfl⟩
theorem im_X_drawn : Cond.instanceMethod m_X_drawn.1 ∈ TB := inTB 1404 (by decide +kernel) rfl
theorem se_X_drawn : Cond.selects m_X_drawn.1.cls m_X_drawn.1 m_X_drawn.1 ∈ TB := inTB 1405 (by decide +kernel) rfl
def m_X_draw : MI := (⟨"RowWalks", "draw", "(I)I"⟩, prog_1_method_44_code, 1, (some .int))
theorem pl_X_draw : plainName m_X_draw.1.cls = true := by decide +kernel
theorem mk_X_draw : mOK m_X_draw 1 := ⟨inTB 1414 (by decide +kernel) rfl, inTB 143 (by decide +kernel) rfl, by decide +kernel, by decide +kernel, nle rfl⟩
theorem st_X_draw : Cond.static m_X_draw.1 ∈ TB := inTB 1413 (by decide +kernel) rfl
def m_X_drawnStray : MI := (⟨"RowWalks", "drawnStray", "(II)I"⟩, prog_1_method_45_code, 5, (some .int))
theorem pl_X_drawnStray : plainName m_X_drawnStray.1.cls = true := by decide +kernel
theorem mk_X_drawnStray : mOK m_X_drawnStray 2 := ⟨inTB 1410 (by decide +kernel) rfl, inTB 143 (by decide +kernel) rfl, by decide +kernel, by decide +kernel, nle rfl⟩
theorem im_X_drawnStray : Cond.instanceMethod m_X_drawnStray.1 ∈ TB := inTB 1409 (by decide +kernel) rfl
theorem se_X_drawnStray : Cond.selects m_X_drawnStray.1.cls m_X_drawnStray.1 m_X_drawnStray.1 ∈ TB := inTB 60 (by decide +kernel) rfl
def m_X_drawSums : MI := (⟨"RowWalks", "drawSums", "(II)I"⟩, prog_1_method_46_code, 6, (some .int))
theorem pl_X_drawSums : plainName m_X_drawSums.1.cls = true := by decide +kernel
theorem mk_X_drawSums : mOK m_X_drawSums 2 := ⟨inTB 1421 (by decide +kernel) rfl, inTB 143 (by decide +kernel) rfl, by decide +kernel, by decide +kernel, nle rfl⟩
theorem im_X_drawSums : Cond.instanceMethod m_X_drawSums.1 ∈ TB := inTB 1420 (by decide +kernel) rfl
theorem se_X_drawSums : Cond.selects m_X_drawSums.1.cls m_X_drawSums.1 m_X_drawSums.1 ∈ TB := inTB 61 (by decide +kernel) rfl
def m_X_chance : MI := (⟨"RowWalks", "chance", "(II)I"⟩, prog_1_method_47_code, 5, (some .int))
theorem pl_X_chance : plainName m_X_chance.1.cls = true := by decide +kernel
theorem mk_X_chance : mOK m_X_chance 2 := ⟨inTB 1425 (by decide +kernel) rfl, inTB 143 (by decide +kernel) rfl, by decide +kernel, by decide +kernel, nle rfl⟩
theorem im_X_chance : Cond.instanceMethod m_X_chance.1 ∈ TB := inTB 1423 (by decide +kernel) rfl
theorem se_X_chance : Cond.selects m_X_chance.1.cls m_X_chance.1 m_X_chance.1 ∈ TB := inTB 1424 (by decide +kernel) rfl
def m_X_seen : MI := (⟨"RowWalks", "seen", "(IIIIZ)I"⟩, prog_1_method_48_code, 6, (some .int))
theorem pl_X_seen : plainName m_X_seen.1.cls = true := by decide +kernel
theorem mk_X_seen : mOK m_X_seen 5 := ⟨inTB 1429 (by decide +kernel) rfl, inTB 143 (by decide +kernel) rfl, by decide +kernel, by decide +kernel, nle rfl⟩
theorem im_X_seen : Cond.instanceMethod m_X_seen.1 ∈ TB := inTB 1427 (by decide +kernel) rfl
theorem se_X_seen : Cond.selects m_X_seen.1.cls m_X_seen.1 m_X_seen.1 ∈ TB := inTB 1428 (by decide +kernel) rfl
def m_X_isSeenLength : MI := (⟨"RowWalks", "isSeenLength", "(I)Z"⟩, prog_1_method_49_code, 1, (some .boolean))
theorem pl_X_isSeenLength : plainName m_X_isSeenLength.1.cls = true := by decide +kernel
theorem mk_X_isSeenLength : mOK m_X_isSeenLength 1 := ⟨inTB 1432 (by decide +kernel) rfl, inTB 143 (by decide +kernel) rfl, by decide +kernel, by decide +kernel, nle rfl⟩
theorem st_X_isSeenLength : Cond.static m_X_isSeenLength.1 ∈ TB := inTB 1431 (by decide +kernel) rfl
def m_X_isSeenSum : MI := (⟨"RowWalks", "isSeenSum", "(I)Z"⟩, prog_1_method_50_code, 1, (some .boolean))
theorem pl_X_isSeenSum : plainName m_X_isSeenSum.1.cls = true := by decide +kernel
theorem mk_X_isSeenSum : mOK m_X_isSeenSum 1 := ⟨inTB 1435 (by decide +kernel) rfl, inTB 143 (by decide +kernel) rfl, by decide +kernel, by decide +kernel, nle rfl⟩
theorem st_X_isSeenSum : Cond.static m_X_isSeenSum.1 ∈ TB := inTB 1434 (by decide +kernel) rfl
def m_X_untell : MI := (⟨"RowWalks", "untell", "(I)Z"⟩, prog_1_method_51_code, 2, (some .boolean))
theorem pl_X_untell : plainName m_X_untell.1.cls = true := by decide +kernel
theorem mk_X_untell : mOK m_X_untell 1 := ⟨inTB 1444 (by decide +kernel) rfl, inTB 143 (by decide +kernel) rfl, by decide +kernel, by decide +kernel, nle rfl⟩
theorem im_X_untell : Cond.instanceMethod m_X_untell.1 ∈ TB := inTB 1442 (by decide +kernel) rfl
theorem se_X_untell : Cond.selects m_X_untell.1.cls m_X_untell.1 m_X_untell.1 ∈ TB := inTB 1443 (by decide +kernel) rfl
def m_X_later : MI := (⟨"RowWalks", "later", "(I)I"⟩, prog_1_method_52_code, 2, (some .int))
theorem pl_X_later : plainName m_X_later.1.cls = true := by decide +kernel
theorem mk_X_later : mOK m_X_later 1 := ⟨inTB 1452 (by decide +kernel) rfl, inTB 143 (by decide +kernel) rfl, by decide +kernel, by decide +kernel, nle rfl⟩
theorem im_X_later : Cond.instanceMethod m_X_later.1 ∈ TB := inTB 1450 (by decide +kernel) rfl
theorem se_X_later : Cond.selects m_X_later.1.cls m_X_later.1 m_X_later.1 ∈ TB := inTB 1451 (by decide +kernel) rfl
def m_X_fits : MI := (⟨"RowWalks", "fits", "(I)I"⟩, prog_1_method_53_code, 2, (some .int))
theorem pl_X_fits : plainName m_X_fits.1.cls = true := by decide +kernel
theorem mk_X_fits : mOK m_X_fits 1 := ⟨inTB 1457 (by decide +kernel) rfl, inTB 143 (by decide +kernel) rfl, by decide +kernel, by decide +kernel, nle rfl⟩
theorem im_X_fits : Cond.instanceMethod m_X_fits.1 ∈ TB := inTB 1455 (by decide +kernel) rfl
theorem se_X_fits : Cond.selects m_X_fits.1.cls m_X_fits.1 m_X_fits.1 ∈ TB := inTB 1456 (by decide +kernel) rfl
def m_X_fit : MI := (⟨"RowWalks", "fit", "(II)I"⟩, prog_1_method_54_code, 6, (some .int))
theorem pl_X_fit : plainName m_X_fit.1.cls = true := by decide +kernel
theorem mk_X_fit : mOK m_X_fit 2 := ⟨inTB 1470 (by decide +kernel) rfl, inTB 143 (by decide +kernel) rfl, by decide +kernel, by decide +kernel, nle rfl⟩
theorem im_X_fit : Cond.instanceMethod m_X_fit.1 ∈ TB := inTB 1468 (by decide +kernel) rfl
theorem se_X_fit : Cond.selects m_X_fit.1.cls m_X_fit.1 m_X_fit.1 ∈ TB := inTB 1469 (by decide +kernel) rfl
def m_X_ask : MI := (⟨"RowWalks", "ask", "(III)I"⟩, prog_1_method_55_code, 4, (some .int))
theorem pl_X_ask : plainName m_X_ask.1.cls = true := by decide +kernel
theorem mk_X_ask : mOK m_X_ask 3 := ⟨inTB 1474 (by decide +kernel) rfl, inTB 143 (by decide +kernel) rfl, by decide +kernel, by decide +kernel, nle rfl⟩
theorem im_X_ask : Cond.instanceMethod m_X_ask.1 ∈ TB := inTB 1472 (by decide +kernel) rfl
theorem se_X_ask : Cond.selects m_X_ask.1.cls m_X_ask.1 m_X_ask.1 ∈ TB := inTB 1473 (by decide +kernel) rfl
def m_X_image : MI := (⟨"RowWalks", "image", "(I)I"⟩, prog_1_method_56_code, 2, (some .int))
theorem pl_X_image : plainName m_X_image.1.cls = true := by decide +kernel
theorem mk_X_image : mOK m_X_image 1 := ⟨inTB 1494 (by decide +kernel) rfl, inTB 143 (by decide +kernel) rfl, by decide +kernel, by decide +kernel, nle rfl⟩
theorem im_X_image : Cond.instanceMethod m_X_image.1 ∈ TB := inTB 1492 (by decide +kernel) rfl
theorem se_X_image : Cond.selects m_X_image.1.cls m_X_image.1 m_X_image.1 ∈ TB := inTB 1493 (by decide +kernel) rfl
def m_X_back : MI := (⟨"RowWalks", "back", "(I)I"⟩, prog_1_method_57_code, 2, (some .int))
theorem pl_X_back : plainName m_X_back.1.cls = true := by decide +kernel
theorem mk_X_back : mOK m_X_back 1 := ⟨inTB 1498 (by decide +kernel) rfl, inTB 143 (by decide +kernel) rfl, by decide +kernel, by decide +kernel, nle rfl⟩
theorem im_X_back : Cond.instanceMethod m_X_back.1 ∈ TB := inTB 1496 (by decide +kernel) rfl
theorem se_X_back : Cond.selects m_X_back.1.cls m_X_back.1 m_X_back.1 ∈ TB := inTB 1497 (by decide +kernel) rfl
def m_X_about : MI := (⟨"RowWalks", "about", "(I)I"⟩, prog_1_method_58_code, 2, (some .int))
theorem pl_X_about : plainName m_X_about.1.cls = true := by decide +kernel
theorem mk_X_about : mOK m_X_about 1 := ⟨inTB 1502 (by decide +kernel) rfl, inTB 143 (by decide +kernel) rfl, by decide +kernel, by decide +kernel, nle rfl⟩
theorem im_X_about : Cond.instanceMethod m_X_about.1 ∈ TB := inTB 1500 (by decide +kernel) rfl
theorem se_X_about : Cond.selects m_X_about.1.cls m_X_about.1 m_X_about.1 ∈ TB := inTB 1501 (by decide +kernel) rfl
def m_M_init : MI := (⟨"RowWalksModel", "<init>", "()V"⟩, prog_14_method_1_code, 1, none)
theorem pl_M_init : plainName m_M_init.1.cls = true := by decide +kernel
theorem mk_M_init : mOK m_M_init 0 := ⟨inTB 1512 (by decide +kernel) rfl, inTB 155 (by decide +kernel) rfl, by decide +kernel, by decide +kernel, nle rfl⟩
theorem im_M_init : Cond.instanceMethod m_M_init.1 ∈ TB := inTB 1511 (by decide +kernel) rfl
def m_M_isIn : MI := (⟨"RowWalksModel", "isIn", "(III)Z"⟩, prog_14_method_2_code, 3, (some .boolean))
theorem pl_M_isIn : plainName m_M_isIn.1.cls = true := by decide +kernel
theorem mk_M_isIn : mOK m_M_isIn 3 := ⟨inTB 1776 (by decide +kernel) rfl, inTB 155 (by decide +kernel) rfl, by decide +kernel, by decide +kernel, nle rfl⟩
theorem st_M_isIn : Cond.static m_M_isIn.1 ∈ TB := inTB 1775 (by decide +kernel) rfl
def m_M_greater : MI := (⟨"RowWalksModel", "greater", "(II)I"⟩, prog_14_method_3_code, 2, (some .int))
theorem pl_M_greater : plainName m_M_greater.1.cls = true := by decide +kernel
theorem mk_M_greater : mOK m_M_greater 2 := ⟨inTB 2017 (by decide +kernel) rfl, inTB 155 (by decide +kernel) rfl, by decide +kernel, by decide +kernel, nle rfl⟩
theorem st_M_greater : Cond.static m_M_greater.1 ∈ TB := inTB 2016 (by decide +kernel) rfl
def m_M_lesser : MI := (⟨"RowWalksModel", "lesser", "(II)I"⟩, prog_14_method_4_code, 2, (some .int))
theorem pl_M_lesser : plainName m_M_lesser.1.cls = true := by decide +kernel
theorem mk_M_lesser : mOK m_M_lesser 2 := ⟨inTB 2006 (by decide +kernel) rfl, inTB 155 (by decide +kernel) rfl, by decide +kernel, by decide +kernel, nle rfl⟩
theorem st_M_lesser : Cond.static m_M_lesser.1 ∈ TB := inTB 2005 (by decide +kernel) rfl
def m_M_truth : MI := (⟨"RowWalksModel", "truth", "(Z)I"⟩, prog_14_method_5_code, 1, (some .int))
theorem pl_M_truth : plainName m_M_truth.1.cls = true := by decide +kernel
theorem mk_M_truth : mOK m_M_truth 1 := ⟨inTB 1966 (by decide +kernel) rfl, inTB 155 (by decide +kernel) rfl, by decide +kernel, by decide +kernel, nle rfl⟩
theorem st_M_truth : Cond.static m_M_truth.1 ∈ TB := inTB 1965 (by decide +kernel) rfl
def m_M_plus : MI := (⟨"RowWalksModel", "plus", "(I)I"⟩, prog_14_method_6_code, 1, (some .int))
theorem pl_M_plus : plainName m_M_plus.1.cls = true := by decide +kernel
theorem mk_M_plus : mOK m_M_plus 1 := ⟨inTB 1943 (by decide +kernel) rfl, inTB 155 (by decide +kernel) rfl, by decide +kernel, by decide +kernel, nle rfl⟩
theorem st_M_plus : Cond.static m_M_plus.1 ∈ TB := inTB 1942 (by decide +kernel) rfl
def m_M_feed : MI := (⟨"RowWalksModel", "feed", "(IIIII)I"⟩, prog_14_method_7_code, 6, (some .int))
theorem pl_M_feed : plainName m_M_feed.1.cls = true := by decide +kernel
theorem mk_M_feed : mOK m_M_feed 5 := ⟨inTB 1765 (by decide +kernel) rfl, inTB 155 (by decide +kernel) rfl, by decide +kernel, by decide +kernel, nle rfl⟩
theorem im_M_feed : Cond.instanceMethod m_M_feed.1 ∈ TB := inTB 1763 (by decide +kernel) rfl
theorem se_M_feed : Cond.selects m_M_feed.1.cls m_M_feed.1 m_M_feed.1 ∈ TB := inTB 1764 (by decide +kernel) rfl
def m_M_four : MI := (⟨"RowWalksModel", "four", "(I)V"⟩, prog_14_method_8_code, 3, none)
theorem pl_M_four : plainName m_M_four.1.cls = true := by decide +kernel
theorem mk_M_four : mOK m_M_four 1 := ⟨inTB 1769 (by decide +kernel) rfl, inTB 155 (by decide +kernel) rfl, by decide +kernel, by decide +kernel, nle rfl⟩
theorem im_M_four : Cond.instanceMethod m_M_four.1 ∈ TB := inTB 1768 (by decide +kernel) rfl
theorem se_M_four : Cond.selects m_M_four.1.cls m_M_four.1 m_M_four.1 ∈ TB := inTB 66 (by decide +kernel) rfl
def m_M_end : MI := (⟨"RowWalksModel", "end", "(I)I"⟩, prog_14_method_9_code, 2, (some .int))
theorem pl_M_end : plainName m_M_end.1.cls = true := by decide +kernel
theorem mk_M_end : mOK m_M_end 1 := ⟨inTB 1773 (by decide +kernel) rfl, inTB 155 (by decide +kernel) rfl, by decide +kernel, by decide +kernel, nle rfl⟩
theorem im_M_end : Cond.instanceMethod m_M_end.1 ∈ TB := inTB 1771 (by decide +kernel) rfl
theorem se_M_end : Cond.selects m_M_end.1.cls m_M_end.1 m_M_end.1 ∈ TB := inTB 1772 (by decide +kernel) rfl
def m_M_here : MI := (⟨"RowWalksModel", "here", "(I)I"⟩, prog_14_method_10_code, 2, (some .int))
theorem pl_M_here : plainName m_M_here.1.cls = true := by decide +kernel
theorem mk_M_here : mOK m_M_here 1 := ⟨inTB 1788 (by decide +kernel) rfl, inTB 155 (by decide +kernel) rfl, by decide +kernel, by decide +kernel, nle rfl⟩
theorem im_M_here : Cond.instanceMethod m_M_here.1 ∈ TB := inTB 1787 (by decide +kernel) rfl
theorem se_M_here : Cond.selects m_M_here.1.cls m_M_here.1 m_M_here.1 ∈ TB := inTB 68 (by decide +kernel) rfl
def m_M_isLetter : MI := (⟨"RowWalksModel", "isLetter", "(I)Z"⟩, prog_14_method_11_code, 1, (some .boolean))
theorem pl_M_isLetter : plainName m_M_isLetter.1.cls = true := by decide +kernel
theorem mk_M_isLetter : mOK m_M_isLetter 1 := ⟨inTB 1791 (by decide +kernel) rfl, inTB 155 (by decide +kernel) rfl, by decide +kernel, by decide +kernel, nle rfl⟩
theorem st_M_isLetter : Cond.static m_M_isLetter.1 ∈ TB := inTB 1790 (by decide +kernel) rfl
def m_M_isDigit : MI := (⟨"RowWalksModel", "isDigit", "(I)Z"⟩, prog_14_method_12_code, 1, (some .boolean))
theorem pl_M_isDigit : plainName m_M_isDigit.1.cls = true := by decide +kernel
theorem mk_M_isDigit : mOK m_M_isDigit 1 := ⟨inTB 1794 (by decide +kernel) rfl, inTB 155 (by decide +kernel) rfl, by decide +kernel, by decide +kernel, nle rfl⟩
theorem st_M_isDigit : Cond.static m_M_isDigit.1 ∈ TB := inTB 1793 (by decide +kernel) rfl
def m_M_goOn : MI := (⟨"RowWalksModel", "goOn", "()V"⟩, prog_14_method_13_code, 2, none)
theorem pl_M_goOn : plainName m_M_goOn.1.cls = true := by decide +kernel
theorem mk_M_goOn : mOK m_M_goOn 0 := ⟨inTB 1784 (by decide +kernel) rfl, inTB 155 (by decide +kernel) rfl, by decide +kernel, by decide +kernel, nle rfl⟩
theorem im_M_goOn : Cond.instanceMethod m_M_goOn.1 ∈ TB := inTB 1783 (by decide +kernel) rfl
theorem se_M_goOn : Cond.selects m_M_goOn.1.cls m_M_goOn.1 m_M_goOn.1 ∈ TB := inTB 67 (by decide +kernel) rfl
def m_M_wrong : MI := (⟨"RowWalksModel", "wrong", "(I)V"⟩, prog_14_method_14_code, 2, none)
theorem pl_M_wrong : plainName m_M_wrong.1.cls = true := by decide +kernel
theorem mk_M_wrong : mOK m_M_wrong 1 := ⟨inTB 1815 (by decide +kernel) rfl, inTB 155 (by decide +kernel) rfl, by decide +kernel, by decide +kernel, nle rfl⟩
theorem im_M_wrong : Cond.instanceMethod m_M_wrong.1 ∈ TB := inTB 1814 (by decide +kernel) rfl
theorem se_M_wrong : Cond.selects m_M_wrong.1.cls m_M_wrong.1 m_M_wrong.1 ∈ TB := inTB 73 (by decide +kernel) rfl
def m_M_isGood : MI := (⟨"RowWalksModel", "isGood", "()Z"⟩, prog_14_method_15_code, 1, (some .boolean))
theorem pl_M_isGood : plainName m_M_isGood.1.cls = true := by decide +kernel
theorem mk_M_isGood : mOK m_M_isGood 0 := ⟨inTB 1798 (by decide +kernel) rfl, inTB 155 (by decide +kernel) rfl, by decide +kernel, by decide +kernel, nle rfl⟩
theorem im_M_isGood : Cond.instanceMethod m_M_isGood.1 ∈ TB := inTB 1797 (by decide +kernel) rfl
theorem se_M_isGood : Cond.selects m_M_isGood.1.cls m_M_isGood.1 m_M_isGood.1 ∈ TB := inTB 69 (by decide +kernel) rfl
def m_M_isWord : MI := (⟨"RowWalksModel", "isWord", "(J)Z"⟩, prog_14_method_16_code, 3, (some .boolean))
theorem pl_M_isWord : plainName m_M_isWord.1.cls = true := by decide +kernel
theorem mk_M_isWord : mOK m_M_isWord 1 := ⟨inTB 1807 (by decide +kernel) rfl, inTB 155 (by decide +kernel) rfl, by decide +kernel, by decide +kernel, nle rfl⟩
theorem im_M_isWord : Cond.instanceMethod m_M_isWord.1 ∈ TB := inTB 1806 (by decide +kernel) rfl
theorem se_M_isWord : Cond.selects m_M_isWord.1.cls m_M_isWord.1 m_M_isWord.1 ∈ TB := inTB 71 (by decide +kernel) rfl
def m_M_numberIn : MI := (⟨"RowWalksModel", "numberIn", "(II)I"⟩, prog_14_method_17_code, 4, (some .int))
theorem pl_M_numberIn : plainName m_M_numberIn.1.cls = true := by decide +kernel
theorem mk_M_numberIn : mOK m_M_numberIn 2 := ⟨inTB 1819 (by decide +kernel) rfl, inTB 155 (by decide +kernel) rfl, by decide +kernel, by decide +kernel, nle rfl⟩
theorem im_M_numberIn : Cond.instanceMethod m_M_numberIn.1 ∈ TB := inTB 1818 (by decide +kernel) rfl
theorem se_M_numberIn : Cond.selects m_M_numberIn.1.cls m_M_numberIn.1 m_M_numberIn.1 ∈ TB := inTB 74 (by decide +kernel) rfl
def m_M_signed : MI := (⟨"RowWalksModel", "signed", "(I)I"⟩, prog_14_method_18_code, 4, (some .int))
theorem pl_M_signed : plainName m_M_signed.1.cls = true := by decide +kernel
theorem mk_M_signed : mOK m_M_signed 1 := ⟨inTB 1831 (by decide +kernel) rfl, inTB 155 (by decide +kernel) rfl, by decide +kernel, by decide +kernel, nle rfl⟩
theorem im_M_signed : Cond.instanceMethod m_M_signed.1 ∈ TB := inTB 1830 (by decide +kernel) rfl
theorem se_M_signed : Cond.selects m_M_signed.1.cls m_M_signed.1 m_M_signed.1 ∈ TB := inTB 76 (by decide +kernel) rfl
def m_M_begins : MI := (⟨"RowWalksModel", "begins", "()V"⟩, prog_14_method_19_code, 2, none)
theorem pl_M_begins : plainName m_M_begins.1.cls = true := by decide +kernel
theorem mk_M_begins : mOK m_M_begins 0 := ⟨inTB 1519 (by decide +kernel) rfl, inTB 155 (by decide +kernel) rfl, by decide +kernel, by decide +kernel, nle rfl⟩
theorem im_M_begins : Cond.instanceMethod m_M_begins.1 ∈ TB := inTB 1518 (by decide +kernel) rfl
theorem se_M_begins : Cond.selects m_M_begins.1.cls m_M_begins.1 m_M_begins.1 ∈ TB := inTB 64 (by decide +kernel) rfl
def m_M_rowsLine : MI := (⟨"RowWalksModel", "rowsLine", "()V"⟩, prog_14_method_20_code, 1, none)
theorem pl_M_rowsLine : plainName m_M_rowsLine.1.cls = true := by decide +kernel
theorem mk_M_rowsLine : mOK m_M_rowsLine 0 := ⟨inTB 1811 (by decide +kernel) rfl, inTB 155 (by decide +kernel) rfl, by decide +kernel, by decide +kernel, nle rfl⟩
theorem im_M_rowsLine : Cond.instanceMethod m_M_rowsLine.1 ∈ TB := inTB 1810 (by decide +kernel) rfl
theorem se_M_rowsLine : Cond.selects m_M_rowsLine.1.cls m_M_rowsLine.1 m_M_rowsLine.1 ∈ TB := inTB 72 (by decide +kernel) rfl
def m_M_columnLine : MI := (⟨"RowWalksModel", "columnLine", "()V"⟩, prog_14_method_21_code, 3, none)
theorem pl_M_columnLine : plainName m_M_columnLine.1.cls = true := by decide +kernel
theorem mk_M_columnLine : mOK m_M_columnLine 0 := ⟨inTB 1824 (by decide +kernel) rfl, inTB 155 (by decide +kernel) rfl, by decide +kernel, by decide +kernel, nle rfl⟩
theorem im_M_columnLine : Cond.instanceMethod m_M_columnLine.1 ∈ TB := inTB 1823 (by decide +kernel) rfl
theorem se_M_columnLine : Cond.selects m_M_columnLine.1.cls m_M_columnLine.1 m_M_columnLine.1 ∈ TB := inTB 75 (by decide +kernel) rfl
def m_M_needLine : MI := (⟨"RowWalksModel", "needLine", "()V"⟩, prog_14_method_22_code, 2, none)
theorem pl_M_needLine : plainName m_M_needLine.1.cls = true := by decide +kernel
theorem mk_M_needLine : mOK m_M_needLine 0 := ⟨inTB 1835 (by decide +kernel) rfl, inTB 155 (by decide +kernel) rfl, by decide +kernel, by decide +kernel, nle rfl⟩
theorem im_M_needLine : Cond.instanceMethod m_M_needLine.1 ∈ TB := inTB 1834 (by decide +kernel) rfl
theorem se_M_needLine : Cond.selects m_M_needLine.1.cls m_M_needLine.1 m_M_needLine.1 ∈ TB := inTB 77 (by decide +kernel) rfl
def m_M_stepsLine : MI := (⟨"RowWalksModel", "stepsLine", "()V"⟩, prog_14_method_23_code, 1, none)
theorem pl_M_stepsLine : plainName m_M_stepsLine.1.cls = true := by decide +kernel
theorem mk_M_stepsLine : mOK m_M_stepsLine 0 := ⟨inTB 1839 (by decide +kernel) rfl, inTB 155 (by decide +kernel) rfl, by decide +kernel, by decide +kernel, nle rfl⟩
theorem im_M_stepsLine : Cond.instanceMethod m_M_stepsLine.1 ∈ TB := inTB 1838 (by decide +kernel) rfl
theorem se_M_stepsLine : Cond.selects m_M_stepsLine.1.cls m_M_stepsLine.1 m_M_stepsLine.1 ∈ TB := inTB 78 (by decide +kernel) rfl
def m_M_line : MI := (⟨"RowWalksModel", "line", "()V"⟩, prog_14_method_24_code, 1, none)
theorem pl_M_line : plainName m_M_line.1.cls = true := by decide +kernel
theorem mk_M_line : mOK m_M_line 0 := ⟨inTB 1802 (by decide +kernel) rfl, inTB 155 (by decide +kernel) rfl, by decide +kernel, by decide +kernel, nle rfl⟩
theorem im_M_line : Cond.instanceMethod m_M_line.1 ∈ TB := inTB 1801 (by decide +kernel) rfl
theorem se_M_line : Cond.selects m_M_line.1.cls m_M_line.1 m_M_line.1 ∈ TB := inTB 70 (by decide +kernel) rfl
def m_M_takesOver : MI := (⟨"RowWalksModel", "takesOver", "()V"⟩, prog_14_method_25_code, 2, none)
theorem pl_M_takesOver : plainName m_M_takesOver.1.cls = true := by decide +kernel
theorem mk_M_takesOver : mOK m_M_takesOver 0 := ⟨inTB 1523 (by decide +kernel) rfl, inTB 155 (by decide +kernel) rfl, by decide +kernel, by decide +kernel, nle rfl⟩
theorem im_M_takesOver : Cond.instanceMethod m_M_takesOver.1 ∈ TB := inTB 1522 (by decide +kernel) rfl
theorem se_M_takesOver : Cond.selects m_M_takesOver.1.cls m_M_takesOver.1 m_M_takesOver.1 ∈ TB := inTB 65 (by decide +kernel) rfl
def m_M_program : MI := (⟨"RowWalksModel", "program", "()I"⟩, prog_14_method_26_code, 1, (some .int))
theorem pl_M_program : plainName m_M_program.1.cls = true := by decide +kernel
theorem mk_M_program : mOK m_M_program 0 := ⟨inTB 1780 (by decide +kernel) rfl, inTB 155 (by decide +kernel) rfl, by decide +kernel, by decide +kernel, nle rfl⟩
theorem im_M_program : Cond.instanceMethod m_M_program.1 ∈ TB := inTB 1778 (by decide +kernel) rfl
theorem se_M_program : Cond.selects m_M_program.1.cls m_M_program.1 m_M_program.1 ∈ TB := inTB 1779 (by decide +kernel) rfl
def m_M_fault : MI := (⟨"RowWalksModel", "fault", "(I)I"⟩, prog_14_method_27_code, 2, (some .int))
theorem pl_M_fault : plainName m_M_fault.1.cls = true := by decide +kernel
theorem mk_M_fault : mOK m_M_fault 1 := ⟨inTB 1843 (by decide +kernel) rfl, inTB 155 (by decide +kernel) rfl, by decide +kernel, by decide +kernel, nle rfl⟩
theorem im_M_fault : Cond.instanceMethod m_M_fault.1 ∈ TB := inTB 1841 (by decide +kernel) rfl
theorem se_M_fault : Cond.selects m_M_fault.1.cls m_M_fault.1 m_M_fault.1 ∈ TB := inTB 1842 (by decide +kernel) rfl
def m_M_isColumn : MI := (⟨"RowWalksModel", "isColumn", "(I)Z"⟩, prog_14_method_28_code, 2, (some .boolean))
theorem pl_M_isColumn : plainName m_M_isColumn.1.cls = true := by decide +kernel
theorem mk_M_isColumn : mOK m_M_isColumn 1 := ⟨inTB 1851 (by decide +kernel) rfl, inTB 155 (by decide +kernel) rfl, by decide +kernel, by decide +kernel, nle rfl⟩
theorem im_M_isColumn : Cond.instanceMethod m_M_isColumn.1 ∈ TB := inTB 1850 (by decide +kernel) rfl
theorem se_M_isColumn : Cond.selects m_M_isColumn.1.cls m_M_isColumn.1 m_M_isColumn.1 ∈ TB := inTB 79 (by decide +kernel) rfl
def m_M_isRow : MI := (⟨"RowWalksModel", "isRow", "(I)Z"⟩, prog_14_method_29_code, 2, (some .boolean))
theorem pl_M_isRow : plainName m_M_isRow.1.cls = true := by decide +kernel
theorem mk_M_isRow : mOK m_M_isRow 1 := ⟨inTB 1855 (by decide +kernel) rfl, inTB 155 (by decide +kernel) rfl, by decide +kernel, by decide +kernel, nle rfl⟩
theorem im_M_isRow : Cond.instanceMethod m_M_isRow.1 ∈ TB := inTB 1854 (by decide +kernel) rfl
theorem se_M_isRow : Cond.selects m_M_isRow.1.cls m_M_isRow.1 m_M_isRow.1 ∈ TB := inTB 80 (by decide +kernel) rfl
def m_M_numberOf : MI := (⟨"RowWalksModel", "numberOf", "(II)I"⟩, prog_14_method_30_code, 3, (some .int))
theorem pl_M_numberOf : plainName m_M_numberOf.1.cls = true := by decide +kernel
theorem mk_M_numberOf : mOK m_M_numberOf 2 := ⟨inTB 1859 (by decide +kernel) rfl, inTB 155 (by decide +kernel) rfl, by decide +kernel, by decide +kernel, nle rfl⟩
theorem im_M_numberOf : Cond.instanceMethod m_M_numberOf.1 ∈ TB := inTB 1858 (by decide +kernel) rfl
theorem se_M_numberOf : Cond.selects m_M_numberOf.1.cls m_M_numberOf.1 m_M_numberOf.1 ∈ TB := inTB 81 (by decide +kernel) rfl
def m_M_gainOf : MI := (⟨"RowWalksModel", "gainOf", "(I)I"⟩, prog_14_method_31_code, 2, (some .int))
theorem pl_M_gainOf : plainName m_M_gainOf.1.cls = true := by decide +kernel
theorem mk_M_gainOf : mOK m_M_gainOf 1 := ⟨inTB 1868 (by decide +kernel) rfl, inTB 155 (by decide +kernel) rfl, by decide +kernel, by decide +kernel, nle rfl⟩
theorem im_M_gainOf : Cond.instanceMethod m_M_gainOf.1 ∈ TB := inTB 1867 (by decide +kernel) rfl
theorem se_M_gainOf : Cond.selects m_M_gainOf.1.cls m_M_gainOf.1 m_M_gainOf.1 ∈ TB := inTB 82 (by decide +kernel) rfl
def m_M_needOf : MI := (⟨"RowWalksModel", "needOf", "(I)I"⟩, prog_14_method_32_code, 2, (some .int))
theorem pl_M_needOf : plainName m_M_needOf.1.cls = true := by decide +kernel
theorem mk_M_needOf : mOK m_M_needOf 1 := ⟨inTB 1876 (by decide +kernel) rfl, inTB 155 (by decide +kernel) rfl, by decide +kernel, by decide +kernel, nle rfl⟩
theorem im_M_needOf : Cond.instanceMethod m_M_needOf.1 ∈ TB := inTB 1875 (by decide +kernel) rfl
theorem se_M_needOf : Cond.selects m_M_needOf.1.cls m_M_needOf.1 m_M_needOf.1 ∈ TB := inTB 83 (by decide +kernel) rfl
def m_M_number : MI := (⟨"RowWalksModel", "number", "(II)I"⟩, prog_14_method_33_code, 3, (some .int))
theorem pl_M_number : plainName m_M_number.1.cls = true := by decide +kernel
theorem mk_M_number : mOK m_M_number 2 := ⟨inTB 1847 (by decide +kernel) rfl, inTB 155 (by decide +kernel) rfl, by decide +kernel, by decide +kernel, nle rfl⟩
theorem im_M_number : Cond.instanceMethod m_M_number.1 ∈ TB := inTB 1845 (by decide +kernel) rfl
theorem se_M_number : Cond.selects m_M_number.1.cls m_M_number.1 m_M_number.1 ∈ TB := inTB 1846 (by decide +kernel) rfl
def m_M_gain : MI := (⟨"RowWalksModel", "gain", "(I)I"⟩, prog_14_method_34_code, 2, (some .int))
theorem pl_M_gain : plainName m_M_gain.1.cls = true := by decide +kernel
theorem mk_M_gain : mOK m_M_gain 1 := ⟨inTB 1864 (by decide +kernel) rfl, inTB 155 (by decide +kernel) rfl, by decide +kernel, by decide +kernel, nle rfl⟩
theorem im_M_gain : Cond.instanceMethod m_M_gain.1 ∈ TB := inTB 1862 (by decide +kernel) rfl
theorem se_M_gain : Cond.selects m_M_gain.1.cls m_M_gain.1 m_M_gain.1 ∈ TB := inTB 1863 (by decide +kernel) rfl
def m_M_need : MI := (⟨"RowWalksModel", "need", "(I)I"⟩, prog_14_method_35_code, 2, (some .int))
theorem pl_M_need : plainName m_M_need.1.cls = true := by decide +kernel
theorem mk_M_need : mOK m_M_need 1 := ⟨inTB 1872 (by decide +kernel) rfl, inTB 155 (by decide +kernel) rfl, by decide +kernel, by decide +kernel, nle rfl⟩
theorem im_M_need : Cond.instanceMethod m_M_need.1 ∈ TB := inTB 1870 (by decide +kernel) rfl
theorem se_M_need : Cond.selects m_M_need.1.cls m_M_need.1 m_M_need.1 ∈ TB := inTB 1871 (by decide +kernel) rfl
def m_M_act : MI := (⟨"RowWalksModel", "act", "()V"⟩, prog_14_method_36_code, 2, none)
theorem pl_M_act : plainName m_M_act.1.cls = true := by decide +kernel
theorem mk_M_act : mOK m_M_act 0 := ⟨inTB 1900 (by decide +kernel) rfl, inTB 155 (by decide +kernel) rfl, by decide +kernel, by decide +kernel, nle rfl⟩
theorem im_M_act : Cond.instanceMethod m_M_act.1 ∈ TB := inTB 1899 (by decide +kernel) rfl
theorem se_M_act : Cond.selects m_M_act.1.cls m_M_act.1 m_M_act.1 ∈ TB := inTB 86 (by decide +kernel) rfl
def m_M_exchanges : MI := (⟨"RowWalksModel", "exchanges", "(I)V"⟩, prog_14_method_37_code, 4, none)
theorem pl_M_exchanges : plainName m_M_exchanges.1.cls = true := by decide +kernel
theorem mk_M_exchanges : mOK m_M_exchanges 1 := ⟨inTB 1884 (by decide +kernel) rfl, inTB 155 (by decide +kernel) rfl, by decide +kernel, by decide +kernel, nle rfl⟩
theorem im_M_exchanges : Cond.instanceMethod m_M_exchanges.1 ∈ TB := inTB 1883 (by decide +kernel) rfl
theorem se_M_exchanges : Cond.selects m_M_exchanges.1.cls m_M_exchanges.1 m_M_exchanges.1 ∈ TB := inTB 84 (by decide +kernel) rfl
def m_M_undo : MI := (⟨"RowWalksModel", "undo", "()Z"⟩, prog_14_method_38_code, 1, (some .boolean))
theorem pl_M_undo : plainName m_M_undo.1.cls = true := by decide +kernel
theorem mk_M_undo : mOK m_M_undo 0 := ⟨inTB 1880 (by decide +kernel) rfl, inTB 155 (by decide +kernel) rfl, by decide +kernel, by decide +kernel, nle rfl⟩
theorem im_M_undo : Cond.instanceMethod m_M_undo.1 ∈ TB := inTB 1878 (by decide +kernel) rfl
theorem se_M_undo : Cond.selects m_M_undo.1.cls m_M_undo.1 m_M_undo.1 ∈ TB := inTB 1879 (by decide +kernel) rfl
def m_M_redo : MI := (⟨"RowWalksModel", "redo", "()Z"⟩, prog_14_method_39_code, 1, (some .boolean))
theorem pl_M_redo : plainName m_M_redo.1.cls = true := by decide +kernel
theorem mk_M_redo : mOK m_M_redo 0 := ⟨inTB 1888 (by decide +kernel) rfl, inTB 155 (by decide +kernel) rfl, by decide +kernel, by decide +kernel, nle rfl⟩
theorem im_M_redo : Cond.instanceMethod m_M_redo.1 ∈ TB := inTB 1886 (by decide +kernel) rfl
theorem se_M_redo : Cond.selects m_M_redo.1.cls m_M_redo.1 m_M_redo.1 ∈ TB := inTB 1887 (by decide +kernel) rfl
def m_M_becomes : MI := (⟨"RowWalksModel", "becomes", "(II)I"⟩, prog_14_method_40_code, 4, (some .int))
theorem pl_M_becomes : plainName m_M_becomes.1.cls = true := by decide +kernel
theorem mk_M_becomes : mOK m_M_becomes 2 := ⟨inTB 1896 (by decide +kernel) rfl, inTB 155 (by decide +kernel) rfl, by decide +kernel, by decide +kernel, nle rfl⟩
theorem im_M_becomes : Cond.instanceMethod m_M_becomes.1 ∈ TB := inTB 1895 (by decide +kernel) rfl
theorem se_M_becomes : Cond.selects m_M_becomes.1.cls m_M_becomes.1 m_M_becomes.1 ∈ TB := inTB 85 (by decide +kernel) rfl
def m_M_change : MI := (⟨"RowWalksModel", "change", "(III)I"⟩, prog_14_method_41_code, 4, (some .int))
theorem pl_M_change : plainName m_M_change.1.cls = true := by decide +kernel
theorem mk_M_change : mOK m_M_change 3 := ⟨inTB 1892 (by decide +kernel) rfl, inTB 155 (by decide +kernel) rfl, by decide +kernel, by decide +kernel, nle rfl⟩
theorem im_M_change : Cond.instanceMethod m_M_change.1 ∈ TB := inTB 1890 (by decide +kernel) rfl
theorem se_M_change : Cond.selects m_M_change.1.cls m_M_change.1 m_M_change.1 ∈ TB := inTB 1891 (by decide +kernel) rfl
def m_M_worth : MI := (⟨"RowWalksModel", "worth", "(II)I"⟩, prog_14_method_42_code, 3, (some .int))
theorem pl_M_worth : plainName m_M_worth.1.cls = true := by decide +kernel
theorem mk_M_worth : mOK m_M_worth 2 := ⟨inTB 1904 (by decide +kernel) rfl, inTB 155 (by decide +kernel) rfl, by decide +kernel, by decide +kernel, nle rfl⟩
theorem im_M_worth : Cond.instanceMethod m_M_worth.1 ∈ TB := inTB 1902 (by decide +kernel) rfl
theorem se_M_worth : Cond.selects m_M_worth.1.cls m_M_worth.1 m_M_worth.1 ∈ TB := inTB 1903 (by decide +kernel) rfl
def m_M_want : MI := (⟨"RowWalksModel", "want", "(II)I"⟩, prog_14_method_43_code, 3, (some .int))
theorem pl_M_want : plainName m_M_want.1.cls = true := by decide +kernel
theorem mk_M_want : mOK m_M_want 2 := ⟨inTB 1908 (by decide +kernel) rfl, inTB 155 (by decide +kernel) rfl, by decide +kernel, by decide +kernel, nle rfl⟩
theorem im_M_want : Cond.instanceMethod m_M_want.1 ∈ TB := inTB 1906 (by decide +kernel) rfl
theorem se_M_want : Cond.selects m_M_want.1.cls m_M_want.1 m_M_want.1 ∈ TB := inTB 1907 (by decide +kernel) rfl
def m_M_allow : MI := (⟨"RowWalksModel", "allow", "(I)I"⟩, prog_14_method_44_code, 2, (some .int))
theorem pl_M_allow : plainName m_M_allow.1.cls = true := by decide +kernel
theorem mk_M_allow : mOK m_M_allow 1 := ⟨inTB 1912 (by decide +kernel) rfl, inTB 155 (by decide +kernel) rfl, by decide +kernel, by decide +kernel, nle rfl⟩
theorem im_M_allow : Cond.instanceMethod m_M_allow.1 ∈ TB := inTB 1910 (by decide +kernel) rfl
theorem se_M_allow : Cond.selects m_M_allow.1.cls m_M_allow.1 m_M_allow.1 ∈ TB := inTB 1911 (by decide +kernel) rfl
def m_M_hold : MI := (⟨"RowWalksModel", "hold", "(II)I"⟩, prog_14_method_45_code, 4, (some .int))
theorem pl_M_hold : plainName m_M_hold.1.cls = true := by decide +kernel
theorem mk_M_hold : mOK m_M_hold 2 := ⟨inTB 1916 (by decide +kernel) rfl, inTB 155 (by decide +kernel) rfl, by decide +kernel, by decide +kernel, nle rfl⟩
theorem im_M_hold : Cond.instanceMethod m_M_hold.1 ∈ TB := inTB 1914 (by decide +kernel) rfl
theorem se_M_hold : Cond.selects m_M_hold.1.cls m_M_hold.1 m_M_hold.1 ∈ TB := inTB 1915 (by decide +kernel) rfl
def m_M_held : MI := (⟨"RowWalksModel", "held", "(I)I"⟩, prog_14_method_46_code, 2, (some .int))
theorem pl_M_held : plainName m_M_held.1.cls = true := by decide +kernel
theorem mk_M_held : mOK m_M_held 1 := ⟨inTB 1920 (by decide +kernel) rfl, inTB 155 (by decide +kernel) rfl, by decide +kernel, by decide +kernel, nle rfl⟩
theorem im_M_held : Cond.instanceMethod m_M_held.1 ∈ TB := inTB 1918 (by decide +kernel) rfl
theorem se_M_held : Cond.selects m_M_held.1.cls m_M_held.1 m_M_held.1 ∈ TB := inTB 1919 (by decide +kernel) rfl
def m_M_heldSum : MI := (⟨"RowWalksModel", "heldSum", "(I)I"⟩, prog_14_method_47_code, 4, (some .int))
theorem pl_M_heldSum : plainName m_M_heldSum.1.cls = true := by decide +kernel
theorem mk_M_heldSum : mOK m_M_heldSum 1 := ⟨inTB 1928 (by decide +kernel) rfl, inTB 155 (by decide +kernel) rfl, by decide +kernel, by decide +kernel, nle rfl⟩
theorem im_M_heldSum : Cond.instanceMethod m_M_heldSum.1 ∈ TB := inTB 1927 (by decide +kernel) rfl
theorem se_M_heldSum : Cond.selects m_M_heldSum.1.cls m_M_heldSum.1 m_M_heldSum.1 ∈ TB := inTB 87 (by decide +kernel) rfl
def m_M_heldGain : MI := (⟨"RowWalksModel", "heldGain", "()I"⟩, prog_14_method_48_code, 3, (some .int))
theorem pl_M_heldGain : plainName m_M_heldGain.1.cls = true := by decide +kernel
theorem mk_M_heldGain : mOK m_M_heldGain 0 := ⟨inTB 1932 (by decide +kernel) rfl, inTB 155 (by decide +kernel) rfl, by decide +kernel, by decide +kernel, nle rfl⟩
theorem im_M_heldGain : Cond.instanceMethod m_M_heldGain.1 ∈ TB := inTB 1931 (by decide +kernel) rfl
theorem se_M_heldGain : Cond.selects m_M_heldGain.1.cls m_M_heldGain.1 m_M_heldGain.1 ∈ TB := inTB 88 (by decide +kernel) rfl
def m_M_heldSteps : MI := (⟨"RowWalksModel", "heldSteps", "()I"⟩, prog_14_method_49_code, 3, (some .int))
theorem pl_M_heldSteps : plainName m_M_heldSteps.1.cls = true := by decide +kernel
theorem mk_M_heldSteps : mOK m_M_heldSteps 0 := ⟨inTB 1936 (by decide +kernel) rfl, inTB 155 (by decide +kernel) rfl, by decide +kernel, by decide +kernel, nle rfl⟩
theorem im_M_heldSteps : Cond.instanceMethod m_M_heldSteps.1 ∈ TB := inTB 1935 (by decide +kernel) rfl
theorem se_M_heldSteps : Cond.selects m_M_heldSteps.1.cls m_M_heldSteps.1 m_M_heldSteps.1 ∈ TB := inTB 89 (by decide +kernel) rfl
def m_M_heldOff : MI := (⟨"RowWalksModel", "heldOff", "()I"⟩, prog_14_method_50_code, 3, (some .int))
theorem pl_M_heldOff : plainName m_M_heldOff.1.cls = true := by decide +kernel
theorem mk_M_heldOff : mOK m_M_heldOff 0 := ⟨inTB 1940 (by decide +kernel) rfl, inTB 155 (by decide +kernel) rfl, by decide +kernel, by decide +kernel, nle rfl⟩
theorem im_M_heldOff : Cond.instanceMethod m_M_heldOff.1 ∈ TB := inTB 1939 (by decide +kernel) rfl
theorem se_M_heldOff : Cond.selects m_M_heldOff.1.cls m_M_heldOff.1 m_M_heldOff.1 ∈ TB := inTB 90 (by decide +kernel) rfl
def m_M_holding : MI := (⟨"RowWalksModel", "holding", "(I)I"⟩, prog_14_method_51_code, 2, (some .int))
theorem pl_M_holding : plainName m_M_holding.1.cls = true := by decide +kernel
theorem mk_M_holding : mOK m_M_holding 1 := ⟨inTB 1924 (by decide +kernel) rfl, inTB 155 (by decide +kernel) rfl, by decide +kernel, by decide +kernel, nle rfl⟩
theorem im_M_holding : Cond.instanceMethod m_M_holding.1 ∈ TB := inTB 1922 (by decide +kernel) rfl
theorem se_M_holding : Cond.selects m_M_holding.1.cls m_M_holding.1 m_M_holding.1 ∈ TB := inTB 1923 (by decide +kernel) rfl
def m_M_firstPlan : MI := (⟨"RowWalksModel", "firstPlan", "(I)Z"⟩, prog_14_method_52_code, 3, (some .boolean))
theorem pl_M_firstPlan : plainName m_M_firstPlan.1.cls = true := by decide +kernel
theorem mk_M_firstPlan : mOK m_M_firstPlan 1 := ⟨inTB 1955 (by decide +kernel) rfl, inTB 155 (by decide +kernel) rfl, by decide +kernel, by decide +kernel, nle rfl⟩
theorem im_M_firstPlan : Cond.instanceMethod m_M_firstPlan.1 ∈ TB := inTB 1954 (by decide +kernel) rfl
theorem se_M_firstPlan : Cond.selects m_M_firstPlan.1.cls m_M_firstPlan.1 m_M_firstPlan.1 ∈ TB := inTB 92 (by decide +kernel) rfl
def m_M_nextPlan : MI := (⟨"RowWalksModel", "nextPlan", "()Z"⟩, prog_14_method_53_code, 4, (some .boolean))
theorem pl_M_nextPlan : plainName m_M_nextPlan.1.cls = true := by decide +kernel
theorem mk_M_nextPlan : mOK m_M_nextPlan 0 := ⟨inTB 1970 (by decide +kernel) rfl, inTB 155 (by decide +kernel) rfl, by decide +kernel, by decide +kernel, nle rfl⟩
theorem im_M_nextPlan : Cond.instanceMethod m_M_nextPlan.1 ∈ TB := inTB 1969 (by decide +kernel) rfl
theorem se_M_nextPlan : Cond.selects m_M_nextPlan.1.cls m_M_nextPlan.1 m_M_nextPlan.1 ∈ TB := inTB 95 (by decide +kernel) rfl
def m_M_planSum : MI := (⟨"RowWalksModel", "planSum", "(I)I"⟩, prog_14_method_54_code, 4, (some .int))
theorem pl_M_planSum : plainName m_M_planSum.1.cls = true := by decide +kernel
theorem mk_M_planSum : mOK m_M_planSum 1 := ⟨inTB 1963 (by decide +kernel) rfl, inTB 155 (by decide +kernel) rfl, by decide +kernel, by decide +kernel, nle rfl⟩
theorem im_M_planSum : Cond.instanceMethod m_M_planSum.1 ∈ TB := inTB 1962 (by decide +kernel) rfl
theorem se_M_planSum : Cond.selects m_M_planSum.1.cls m_M_planSum.1 m_M_planSum.1 ∈ TB := inTB 94 (by decide +kernel) rfl
def m_M_planGain : MI := (⟨"RowWalksModel", "planGain", "()I"⟩, prog_14_method_55_code, 3, (some .int))
theorem pl_M_planGain : plainName m_M_planGain.1.cls = true := by decide +kernel
theorem mk_M_planGain : mOK m_M_planGain 0 := ⟨inTB 1986 (by decide +kernel) rfl, inTB 155 (by decide +kernel) rfl, by decide +kernel, by decide +kernel, nle rfl⟩
theorem im_M_planGain : Cond.instanceMethod m_M_planGain.1 ∈ TB := inTB 1985 (by decide +kernel) rfl
theorem se_M_planGain : Cond.selects m_M_planGain.1.cls m_M_planGain.1 m_M_planGain.1 ∈ TB := inTB 97 (by decide +kernel) rfl
def m_M_doesLead : MI := (⟨"RowWalksModel", "doesLead", "()Z"⟩, prog_14_method_56_code, 3, (some .boolean))
theorem pl_M_doesLead : plainName m_M_doesLead.1.cls = true := by decide +kernel
theorem mk_M_doesLead : mOK m_M_doesLead 0 := ⟨inTB 1959 (by decide +kernel) rfl, inTB 155 (by decide +kernel) rfl, by decide +kernel, by decide +kernel, nle rfl⟩
theorem im_M_doesLead : Cond.instanceMethod m_M_doesLead.1 ∈ TB := inTB 1958 (by decide +kernel) rfl
theorem se_M_doesLead : Cond.selects m_M_doesLead.1.cls m_M_doesLead.1 m_M_doesLead.1 ∈ TB := inTB 93 (by decide +kernel) rfl
def m_M_plansOf : MI := (⟨"RowWalksModel", "plansOf", "(I)I"⟩, prog_14_method_57_code, 4, (some .int))
theorem pl_M_plansOf : plainName m_M_plansOf.1.cls = true := by decide +kernel
theorem mk_M_plansOf : mOK m_M_plansOf 1 := ⟨inTB 1951 (by decide +kernel) rfl, inTB 155 (by decide +kernel) rfl, by decide +kernel, by decide +kernel, nle rfl⟩
theorem im_M_plansOf : Cond.instanceMethod m_M_plansOf.1 ∈ TB := inTB 1950 (by decide +kernel) rfl
theorem se_M_plansOf : Cond.selects m_M_plansOf.1.cls m_M_plansOf.1 m_M_plansOf.1 ∈ TB := inTB 91 (by decide +kernel) rfl
def m_M_plans : MI := (⟨"RowWalksModel", "plans", "(I)I"⟩, prog_14_method_58_code, 2, (some .int))
theorem pl_M_plans : plainName m_M_plans.1.cls = true := by decide +kernel
theorem mk_M_plans : mOK m_M_plans 1 := ⟨inTB 1947 (by decide +kernel) rfl, inTB 155 (by decide +kernel) rfl, by decide +kernel, by decide +kernel, nle rfl⟩
theorem im_M_plans : Cond.instanceMethod m_M_plans.1 ∈ TB := inTB 1945 (by decide +kernel) rfl
theorem se_M_plans : Cond.selects m_M_plans.1.cls m_M_plans.1 m_M_plans.1 ∈ TB := inTB 1946 (by decide +kernel) rfl
def m_M_fewest : MI := (⟨"RowWalksModel", "fewest", "()I"⟩, prog_14_method_59_code, 2, (some .int))
theorem pl_M_fewest : plainName m_M_fewest.1.cls = true := by decide +kernel
theorem mk_M_fewest : mOK m_M_fewest 0 := ⟨inTB 1974 (by decide +kernel) rfl, inTB 155 (by decide +kernel) rfl, by decide +kernel, by decide +kernel, nle rfl⟩
theorem im_M_fewest : Cond.instanceMethod m_M_fewest.1 ∈ TB := inTB 1972 (by decide +kernel) rfl
theorem se_M_fewest : Cond.selects m_M_fewest.1.cls m_M_fewest.1 m_M_fewest.1 ∈ TB := inTB 1973 (by decide +kernel) rfl
def m_M_laysOptimum : MI := (⟨"RowWalksModel", "laysOptimum", "()Z"⟩, prog_14_method_60_code, 5, (some .boolean))
theorem pl_M_laysOptimum : plainName m_M_laysOptimum.1.cls = true := by decide +kernel
theorem mk_M_laysOptimum : mOK m_M_laysOptimum 0 := ⟨inTB 1982 (by decide +kernel) rfl, inTB 155 (by decide +kernel) rfl, by decide +kernel, by decide +kernel, nle rfl⟩
theorem im_M_laysOptimum : Cond.instanceMethod m_M_laysOptimum.1 ∈ TB := inTB 1981 (by decide +kernel) rfl
theorem se_M_laysOptimum : Cond.selects m_M_laysOptimum.1.cls m_M_laysOptimum.1 m_M_laysOptimum.1 ∈ TB := inTB 96 (by decide +kernel) rfl
def m_M_optimum : MI := (⟨"RowWalksModel", "optimum", "(I)I"⟩, prog_14_method_61_code, 2, (some .int))
theorem pl_M_optimum : plainName m_M_optimum.1.cls = true := by decide +kernel
theorem mk_M_optimum : mOK m_M_optimum 1 := ⟨inTB 1978 (by decide +kernel) rfl, inTB 155 (by decide +kernel) rfl, by decide +kernel, by decide +kernel, nle rfl⟩
theorem im_M_optimum : Cond.instanceMethod m_M_optimum.1 ∈ TB := inTB 1976 (by decide +kernel) rfl
theorem se_M_optimum : Cond.selects m_M_optimum.1.cls m_M_optimum.1 m_M_optimum.1 ∈ TB := inTB 1977 (by decide +kernel) rfl
def m_M_plan : MI := (⟨"RowWalksModel", "plan", "(I)I"⟩, prog_14_method_62_code, 2, (some .int))
theorem pl_M_plan : plainName m_M_plan.1.cls = true := by decide +kernel
theorem mk_M_plan : mOK m_M_plan 1 := ⟨inTB 1990 (by decide +kernel) rfl, inTB 155 (by decide +kernel) rfl, by decide +kernel, by decide +kernel, nle rfl⟩
theorem im_M_plan : Cond.instanceMethod m_M_plan.1 ∈ TB := inTB 1988 (by decide +kernel) rfl
theorem se_M_plan : Cond.selects m_M_plan.1.cls m_M_plan.1 m_M_plan.1 ∈ TB := inTB 1989 (by decide +kernel) rfl
def m_M_partOf : MI := (⟨"RowWalksModel", "partOf", "(II)I"⟩, prog_14_method_63_code, 3, (some .int))
theorem pl_M_partOf : plainName m_M_partOf.1.cls = true := by decide +kernel
theorem mk_M_partOf : mOK m_M_partOf 2 := ⟨inTB 2003 (by decide +kernel) rfl, inTB 155 (by decide +kernel) rfl, by decide +kernel, by decide +kernel, nle rfl⟩
theorem im_M_partOf : Cond.instanceMethod m_M_partOf.1 ∈ TB := inTB 2002 (by decide +kernel) rfl
theorem se_M_partOf : Cond.selects m_M_partOf.1.cls m_M_partOf.1 m_M_partOf.1 ∈ TB := inTB 99 (by decide +kernel) rfl
def m_M_strayOf : MI := (⟨"RowWalksModel", "strayOf", "(III)I"⟩, prog_14_method_64_code, 8, (some .int))
theorem pl_M_strayOf : plainName m_M_strayOf.1.cls = true := by decide +kernel
theorem mk_M_strayOf : mOK m_M_strayOf 3 := ⟨inTB 2014 (by decide +kernel) rfl, inTB 155 (by decide +kernel) rfl, by decide +kernel, by decide +kernel, nle rfl⟩
theorem im_M_strayOf : Cond.instanceMethod m_M_strayOf.1 ∈ TB := inTB 2013 (by decide +kernel) rfl
theorem se_M_strayOf : Cond.selects m_M_strayOf.1.cls m_M_strayOf.1 m_M_strayOf.1 ∈ TB := inTB 101 (by decide +kernel) rfl
def m_M_stepsIn : MI := (⟨"RowWalksModel", "stepsIn", "(I)I"⟩, prog_14_method_65_code, 4, (some .int))
theorem pl_M_stepsIn : plainName m_M_stepsIn.1.cls = true := by decide +kernel
theorem mk_M_stepsIn : mOK m_M_stepsIn 1 := ⟨inTB 2010 (by decide +kernel) rfl, inTB 155 (by decide +kernel) rfl, by decide +kernel, by decide +kernel, nle rfl⟩
theorem im_M_stepsIn : Cond.instanceMethod m_M_stepsIn.1 ∈ TB := inTB 2009 (by decide +kernel) rfl
theorem se_M_stepsIn : Cond.selects m_M_stepsIn.1.cls m_M_stepsIn.1 m_M_stepsIn.1 ∈ TB := inTB 100 (by decide +kernel) rfl
def m_M_laysOrder : MI := (⟨"RowWalksModel", "laysOrder", "()V"⟩, prog_14_method_66_code, 5, none)
theorem pl_M_laysOrder : plainName m_M_laysOrder.1.cls = true := by decide +kernel
theorem mk_M_laysOrder : mOK m_M_laysOrder 0 := ⟨inTB 1998 (by decide +kernel) rfl, inTB 155 (by decide +kernel) rfl, by decide +kernel, by decide +kernel, nle rfl⟩
theorem im_M_laysOrder : Cond.instanceMethod m_M_laysOrder.1 ∈ TB := inTB 1997 (by decide +kernel) rfl
theorem se_M_laysOrder : Cond.selects m_M_laysOrder.1.cls m_M_laysOrder.1 m_M_laysOrder.1 ∈ TB := inTB 98 (by decide +kernel) rfl
def m_M_order : MI := (⟨"RowWalksModel", "order", "(I)I"⟩, prog_14_method_67_code, 5, (some .int))
theorem pl_M_order : plainName m_M_order.1.cls = true := by decide +kernel
theorem mk_M_order : mOK m_M_order 1 := ⟨inTB 1994 (by decide +kernel) rfl, inTB 155 (by decide +kernel) rfl, by decide +kernel, by decide +kernel, nle rfl⟩
theorem im_M_order : Cond.instanceMethod m_M_order.1 ∈ TB := inTB 1992 (by decide +kernel) rfl
theorem se_M_order : Cond.selects m_M_order.1.cls m_M_order.1 m_M_order.1 ∈ TB := inTB 1993 (by decide +kernel) rfl
def m_M_strays : MI := (⟨"RowWalksModel", "strays", "()I"⟩, prog_14_method_68_code, 1, (some .int))
theorem pl_M_strays : plainName m_M_strays.1.cls = true := by decide +kernel
theorem mk_M_strays : mOK m_M_strays 0 := ⟨inTB 2021 (by decide +kernel) rfl, inTB 155 (by decide +kernel) rfl, by decide +kernel, by decide +kernel, nle rfl⟩
theorem im_M_strays : Cond.instanceMethod m_M_strays.1 ∈ TB := inTB 2019 (by decide +kernel) rfl
theorem se_M_strays : Cond.selects m_M_strays.1.cls m_M_strays.1 m_M_strays.1 ∈ TB := inTB 2020 (by decide +kernel) rfl
def m_M_noSums : MI := (⟨"RowWalksModel", "noSums", "()V"⟩, prog_14_method_69_code, 2, none)
theorem pl_M_noSums : plainName m_M_noSums.1.cls = true := by decide +kernel
theorem mk_M_noSums : mOK m_M_noSums 0 := ⟨inTB 2029 (by decide +kernel) rfl, inTB 155 (by decide +kernel) rfl, by decide +kernel, by decide +kernel, nle rfl⟩
theorem im_M_noSums : Cond.instanceMethod m_M_noSums.1 ∈ TB := inTB 2028 (by decide +kernel) rfl
theorem se_M_noSums : Cond.selects m_M_noSums.1.cls m_M_noSums.1 m_M_noSums.1 ∈ TB := inTB 102 (by decide +kernel) rfl
def m_M_adds : MI := (⟨"RowWalksModel", "adds", "(I)V"⟩, prog_14_method_70_code, 3, none)
theorem pl_M_adds : plainName m_M_adds.1.cls = true := by decide +kernel
theorem mk_M_adds : mOK m_M_adds 1 := ⟨inTB 2033 (by decide +kernel) rfl, inTB 155 (by decide +kernel) rfl, by decide +kernel, by decide +kernel, nle rfl⟩
theorem im_M_adds : Cond.instanceMethod m_M_adds.1 ∈ TB := inTB 2032 (by decide +kernel) rfl
theorem se_M_adds : Cond.selects m_M_adds.1.cls m_M_adds.1 m_M_adds.1 ∈ TB := inTB 103 (by decide +kernel) rfl
def m_M_strayNow : MI := (⟨"RowWalksModel", "strayNow", "(II)I"⟩, prog_14_method_71_code, 5, (some .int))
theorem pl_M_strayNow : plainName m_M_strayNow.1.cls = true := by decide +kernel
theorem mk_M_strayNow : mOK m_M_strayNow 2 := ⟨inTB 2037 (by decide +kernel) rfl, inTB 155 (by decide +kernel) rfl, by decide +kernel, by decide +kernel, nle rfl⟩
theorem im_M_strayNow : Cond.instanceMethod m_M_strayNow.1 ∈ TB := inTB 2036 (by decide +kernel) rfl
theorem se_M_strayNow : Cond.selects m_M_strayNow.1.cls m_M_strayNow.1 m_M_strayNow.1 ∈ TB := inTB 104 (by decide +kernel) rfl
def m_M_sorted : MI := (⟨"RowWalksModel", "sorted", "()I"⟩, prog_14_method_72_code, 5, (some .int))
theorem pl_M_sorted : plainName m_M_sorted.1.cls = true := by decide +kernel
theorem mk_M_sorted : mOK m_M_sorted 0 := ⟨inTB 2025 (by decide +kernel) rfl, inTB 155 (by decide +kernel) rfl, by decide +kernel, by decide +kernel, nle rfl⟩
theorem im_M_sorted : Cond.instanceMethod m_M_sorted.1 ∈ TB := inTB 2023 (by decide +kernel) rfl
theorem se_M_sorted : Cond.selects m_M_sorted.1.cls m_M_sorted.1 m_M_sorted.1 ∈ TB := inTB 2024 (by decide +kernel) rfl
def m_M_keyNow : MI := (⟨"RowWalksModel", "keyNow", "()I"⟩, prog_14_method_73_code, 1, (some .int))
theorem pl_M_keyNow : plainName m_M_keyNow.1.cls = true := by decide +kernel
theorem mk_M_keyNow : mOK m_M_keyNow 0 := ⟨inTB 2060 (by decide +kernel) rfl, inTB 155 (by decide +kernel) rfl, by decide +kernel, by decide +kernel, nle rfl⟩
theorem im_M_keyNow : Cond.instanceMethod m_M_keyNow.1 ∈ TB := inTB 2059 (by decide +kernel) rfl
theorem se_M_keyNow : Cond.selects m_M_keyNow.1.cls m_M_keyNow.1 m_M_keyNow.1 ∈ TB := inTB 108 (by decide +kernel) rfl
def m_M_unpacks : MI := (⟨"RowWalksModel", "unpacks", "(I)V"⟩, prog_14_method_74_code, 2, none)
theorem pl_M_unpacks : plainName m_M_unpacks.1.cls = true := by decide +kernel
theorem mk_M_unpacks : mOK m_M_unpacks 1 := ⟨inTB 2070 (by decide +kernel) rfl, inTB 155 (by decide +kernel) rfl, by decide +kernel, by decide +kernel, nle rfl⟩
theorem im_M_unpacks : Cond.instanceMethod m_M_unpacks.1 ∈ TB := inTB 2069 (by decide +kernel) rfl
theorem se_M_unpacks : Cond.selects m_M_unpacks.1.cls m_M_unpacks.1 m_M_unpacks.1 ∈ TB := inTB 110 (by decide +kernel) rfl
def m_M_slotOf : MI := (⟨"RowWalksModel", "slotOf", "(II)I"⟩, prog_14_method_75_code, 4, (some .int))
theorem pl_M_slotOf : plainName m_M_slotOf.1.cls = true := by decide +kernel
theorem mk_M_slotOf : mOK m_M_slotOf 2 := ⟨inTB 2064 (by decide +kernel) rfl, inTB 155 (by decide +kernel) rfl, by decide +kernel, by decide +kernel, nle rfl⟩
theorem im_M_slotOf : Cond.instanceMethod m_M_slotOf.1 ∈ TB := inTB 2063 (by decide +kernel) rfl
theorem se_M_slotOf : Cond.selects m_M_slotOf.1.cls m_M_slotOf.1 m_M_slotOf.1 ∈ TB := inTB 109 (by decide +kernel) rfl
def m_M_comes : MI := (⟨"RowWalksModel", "comes", "(I)V"⟩, prog_14_method_76_code, 4, none)
theorem pl_M_comes : plainName m_M_comes.1.cls = true := by decide +kernel
theorem mk_M_comes : mOK m_M_comes 1 := ⟨inTB 2056 (by decide +kernel) rfl, inTB 155 (by decide +kernel) rfl, by decide +kernel, by decide +kernel, nle rfl⟩
theorem im_M_comes : Cond.instanceMethod m_M_comes.1 ∈ TB := inTB 2055 (by decide +kernel) rfl
theorem se_M_comes : Cond.selects m_M_comes.1.cls m_M_comes.1 m_M_comes.1 ∈ TB := inTB 107 (by decide +kernel) rfl
def m_M_laysLayers : MI := (⟨"RowWalksModel", "laysLayers", "(II)V"⟩, prog_14_method_77_code, 6, none)
theorem pl_M_laysLayers : plainName m_M_laysLayers.1.cls = true := by decide +kernel
theorem mk_M_laysLayers : mOK m_M_laysLayers 2 := ⟨inTB 2052 (by decide +kernel) rfl, inTB 155 (by decide +kernel) rfl, by decide +kernel, by decide +kernel, nle rfl⟩
theorem im_M_laysLayers : Cond.instanceMethod m_M_laysLayers.1 ∈ TB := inTB 2051 (by decide +kernel) rfl
theorem se_M_laysLayers : Cond.selects m_M_laysLayers.1.cls m_M_laysLayers.1 m_M_laysLayers.1 ∈ TB := inTB 106 (by decide +kernel) rfl
def m_M_isNeeded : MI := (⟨"RowWalksModel", "isNeeded", "()Z"⟩, prog_14_method_78_code, 3, (some .boolean))
theorem pl_M_isNeeded : plainName m_M_isNeeded.1.cls = true := by decide +kernel
theorem mk_M_isNeeded : mOK m_M_isNeeded 0 := ⟨inTB 2078 (by decide +kernel) rfl, inTB 155 (by decide +kernel) rfl, by decide +kernel, by decide +kernel, nle rfl⟩
theorem im_M_isNeeded : Cond.instanceMethod m_M_isNeeded.1 ∈ TB := inTB 2077 (by decide +kernel) rfl
theorem se_M_isNeeded : Cond.selects m_M_isNeeded.1.cls m_M_isNeeded.1 m_M_isNeeded.1 ∈ TB := inTB 112 (by decide +kernel) rfl
def m_M_behind : MI := (⟨"RowWalksModel", "behind", "(III)I"⟩, prog_14_method_79_code, 5, (some .int))
theorem pl_M_behind : plainName m_M_behind.1.cls = true := by decide +kernel
theorem mk_M_behind : mOK m_M_behind 3 := ⟨inTB 2083 (by decide +kernel) rfl, inTB 155 (by decide +kernel) rfl, by decide +kernel, by decide +kernel, nle rfl⟩
theorem im_M_behind : Cond.instanceMethod m_M_behind.1 ∈ TB := inTB 2082 (by decide +kernel) rfl
theorem se_M_behind : Cond.selects m_M_behind.1.cls m_M_behind.1 m_M_behind.1 ∈ TB := inTB 113 (by decide +kernel) rfl
def m_M_laysWays : MI := (⟨"RowWalksModel", "laysWays", "(I)V"⟩, prog_14_method_80_code, 6, none)
theorem pl_M_laysWays : plainName m_M_laysWays.1.cls = true := by decide +kernel
theorem mk_M_laysWays : mOK m_M_laysWays 1 := ⟨inTB 2074 (by decide +kernel) rfl, inTB 155 (by decide +kernel) rfl, by decide +kernel, by decide +kernel, nle rfl⟩
theorem im_M_laysWays : Cond.instanceMethod m_M_laysWays.1 ∈ TB := inTB 2073 (by decide +kernel) rfl
theorem se_M_laysWays : Cond.selects m_M_laysWays.1.cls m_M_laysWays.1 m_M_laysWays.1 ∈ TB := inTB 111 (by decide +kernel) rfl
def m_M_laysStrip : MI := (⟨"RowWalksModel", "laysStrip", "(II)V"⟩, prog_14_method_81_code, 3, none)
theorem pl_M_laysStrip : plainName m_M_laysStrip.1.cls = true := by decide +kernel
theorem mk_M_laysStrip : mOK m_M_laysStrip 2 := ⟨inTB 2048 (by decide +kernel) rfl, inTB 155 (by decide +kernel) rfl, by decide +kernel, by decide +kernel, nle rfl⟩
theorem im_M_laysStrip : Cond.instanceMethod m_M_laysStrip.1 ∈ TB := inTB 2047 (by decide +kernel) rfl
theorem se_M_laysStrip : Cond.selects m_M_laysStrip.1.cls m_M_laysStrip.1 m_M_laysStrip.1 ∈ TB := inTB 105 (by decide +kernel) rfl
def m_M_isStrip : MI := (⟨"RowWalksModel", "isStrip", "(II)Z"⟩, prog_14_method_82_code, 2, (some .boolean))
theorem pl_M_isStrip : plainName m_M_isStrip.1.cls = true := by decide +kernel
theorem mk_M_isStrip : mOK m_M_isStrip 2 := ⟨inTB 2044 (by decide +kernel) rfl, inTB 155 (by decide +kernel) rfl, by decide +kernel, by decide +kernel, nle rfl⟩
theorem st_M_isStrip : Cond.static m_M_isStrip.1 ∈ TB := inTB 2043 (by decide +kernel) rfl
def m_M_strip : MI := (⟨"RowWalksModel", "strip", "(III)I"⟩, prog_14_method_83_code, 4, (some .int))
theorem pl_M_strip : plainName m_M_strip.1.cls = true := by decide +kernel
theorem mk_M_strip : mOK m_M_strip 3 := ⟨inTB 2041 (by decide +kernel) rfl, inTB 155 (by decide +kernel) rfl, by decide +kernel, by decide +kernel, nle rfl⟩
theorem im_M_strip : Cond.instanceMethod m_M_strip.1 ∈ TB := inTB 2039 (by decide +kernel) rfl
theorem se_M_strip : Cond.selects m_M_strip.1.cls m_M_strip.1 m_M_strip.1 ∈ TB := inTB 2040 (by decide +kernel) rfl
def m_M_walks : MI := (⟨"RowWalksModel", "walks", "(II)J"⟩, prog_14_method_84_code, 3, (some .long))
theorem pl_M_walks : plainName m_M_walks.1.cls = true := by decide +kernel
theorem mk_M_walks : mOK m_M_walks 2 := ⟨inTB 2087 (by decide +kernel) rfl, inTB 155 (by decide +kernel) rfl, by decide +kernel, by decide +kernel, nle rfl⟩
theorem im_M_walks : Cond.instanceMethod m_M_walks.1 ∈ TB := inTB 2085 (by decide +kernel) rfl
theorem se_M_walks : Cond.selects m_M_walks.1.cls m_M_walks.1 m_M_walks.1 ∈ TB := inTB 2086 (by decide +kernel) rfl
def m_M_best : MI := (⟨"RowWalksModel", "best", "(II)I"⟩, prog_14_method_85_code, 3, (some .int))
theorem pl_M_best : plainName m_M_best.1.cls = true := by decide +kernel
theorem mk_M_best : mOK m_M_best 2 := ⟨inTB 2092 (by decide +kernel) rfl, inTB 155 (by decide +kernel) rfl, by decide +kernel, by decide +kernel, nle rfl⟩
theorem im_M_best : Cond.instanceMethod m_M_best.1 ∈ TB := inTB 2090 (by decide +kernel) rfl
theorem se_M_best : Cond.selects m_M_best.1.cls m_M_best.1 m_M_best.1 ∈ TB := inTB 2091 (by decide +kernel) rfl
def m_M_step : MI := (⟨"RowWalksModel", "step", "(III)I"⟩, prog_14_method_86_code, 7, (some .int))
theorem pl_M_step : plainName m_M_step.1.cls = true := by decide +kernel
theorem mk_M_step : mOK m_M_step 3 := ⟨inTB 2096 (by decide +kernel) rfl, inTB 155 (by decide +kernel) rfl, by decide +kernel, by decide +kernel, nle rfl⟩
theorem im_M_step : Cond.instanceMethod m_M_step.1 ∈ TB := inTB 2094 (by decide +kernel) rfl
theorem se_M_step : Cond.selects m_M_step.1.cls m_M_step.1 m_M_step.1 ∈ TB := inTB 2095 (by decide +kernel) rfl
def m_M_isBestStep : MI := (⟨"RowWalksModel", "isBestStep", "(III)Z"⟩, prog_14_method_87_code, 5, (some .boolean))
theorem pl_M_isBestStep : plainName m_M_isBestStep.1.cls = true := by decide +kernel
theorem mk_M_isBestStep : mOK m_M_isBestStep 3 := ⟨inTB 2100 (by decide +kernel) rfl, inTB 155 (by decide +kernel) rfl, by decide +kernel, by decide +kernel, nle rfl⟩
theorem im_M_isBestStep : Cond.instanceMethod m_M_isBestStep.1 ∈ TB := inTB 2099 (by decide +kernel) rfl
theorem se_M_isBestStep : Cond.selects m_M_isBestStep.1.cls m_M_isBestStep.1 m_M_isBestStep.1 ∈ TB := inTB 114 (by decide +kernel) rfl
def m_M_narrow : MI := (⟨"RowWalksModel", "narrow", "(I)I"⟩, prog_14_method_88_code, 3, (some .int))
theorem pl_M_narrow : plainName m_M_narrow.1.cls = true := by decide +kernel
theorem mk_M_narrow : mOK m_M_narrow 1 := ⟨inTB 2104 (by decide +kernel) rfl, inTB 155 (by decide +kernel) rfl, by decide +kernel, by decide +kernel, nle rfl⟩
theorem im_M_narrow : Cond.instanceMethod m_M_narrow.1 ∈ TB := inTB 2102 (by decide +kernel) rfl
theorem se_M_narrow : Cond.selects m_M_narrow.1.cls m_M_narrow.1 m_M_narrow.1 ∈ TB := inTB 2103 (by decide +kernel) rfl
def m_M_isNear : MI := (⟨"RowWalksModel", "isNear", "(II)Z"⟩, prog_14_method_89_code, 5, (some .boolean))
theorem pl_M_isNear : plainName m_M_isNear.1.cls = true := by decide +kernel
theorem mk_M_isNear : mOK m_M_isNear 2 := ⟨inTB 2120 (by decide +kernel) rfl, inTB 155 (by decide +kernel) rfl, by decide +kernel, by decide +kernel, nle rfl⟩
theorem im_M_isNear : Cond.instanceMethod m_M_isNear.1 ∈ TB := inTB 2119 (by decide +kernel) rfl
theorem se_M_isNear : Cond.selects m_M_isNear.1.cls m_M_isNear.1 m_M_isNear.1 ∈ TB := inTB 117 (by decide +kernel) rfl
def m_M_comesTo : MI := (⟨"RowWalksModel", "comesTo", "(IIII)V"⟩, prog_14_method_90_code, 6, none)
theorem pl_M_comesTo : plainName m_M_comesTo.1.cls = true := by decide +kernel
theorem mk_M_comesTo : mOK m_M_comesTo 4 := ⟨inTB 2116 (by decide +kernel) rfl, inTB 155 (by decide +kernel) rfl, by decide +kernel, by decide +kernel, nle rfl⟩
theorem im_M_comesTo : Cond.instanceMethod m_M_comesTo.1 ∈ TB := inTB 2115 (by decide +kernel) rfl
theorem se_M_comesTo : Cond.selects m_M_comesTo.1.cls m_M_comesTo.1 m_M_comesTo.1 ∈ TB := inTB 116 (by decide +kernel) rfl
def m_M_laysDoubled : MI := (⟨"RowWalksModel", "laysDoubled", "(II)V"⟩, prog_14_method_91_code, 9, none)
theorem pl_M_laysDoubled : plainName m_M_laysDoubled.1.cls = true := by decide +kernel
theorem mk_M_laysDoubled : mOK m_M_laysDoubled 2 := ⟨inTB 2112 (by decide +kernel) rfl, inTB 155 (by decide +kernel) rfl, by decide +kernel, by decide +kernel, nle rfl⟩
theorem im_M_laysDoubled : Cond.instanceMethod m_M_laysDoubled.1 ∈ TB := inTB 2111 (by decide +kernel) rfl
theorem se_M_laysDoubled : Cond.selects m_M_laysDoubled.1.cls m_M_laysDoubled.1 m_M_laysDoubled.1 ∈ TB := inTB 115 (by decide +kernel) rfl
def m_M_isOfLevel : MI := (⟨"RowWalksModel", "isOfLevel", "(I)Z"⟩, prog_14_method_92_code, 5, (some .boolean))
theorem pl_M_isOfLevel : plainName m_M_isOfLevel.1.cls = true := by decide +kernel
theorem mk_M_isOfLevel : mOK m_M_isOfLevel 1 := ⟨inTB 2124 (by decide +kernel) rfl, inTB 155 (by decide +kernel) rfl, by decide +kernel, by decide +kernel, nle rfl⟩
theorem im_M_isOfLevel : Cond.instanceMethod m_M_isOfLevel.1 ∈ TB := inTB 2123 (by decide +kernel) rfl
theorem se_M_isOfLevel : Cond.selects m_M_isOfLevel.1.cls m_M_isOfLevel.1 m_M_isOfLevel.1 ∈ TB := inTB 118 (by decide +kernel) rfl
def m_M_doubled : MI := (⟨"RowWalksModel", "doubled", "(III)I"⟩, prog_14_method_93_code, 4, (some .int))
theorem pl_M_doubled : plainName m_M_doubled.1.cls = true := by decide +kernel
theorem mk_M_doubled : mOK m_M_doubled 3 := ⟨inTB 2108 (by decide +kernel) rfl, inTB 155 (by decide +kernel) rfl, by decide +kernel, by decide +kernel, nle rfl⟩
theorem im_M_doubled : Cond.instanceMethod m_M_doubled.1 ∈ TB := inTB 2106 (by decide +kernel) rfl
theorem se_M_doubled : Cond.selects m_M_doubled.1.cls m_M_doubled.1 m_M_doubled.1 ∈ TB := inTB 2107 (by decide +kernel) rfl
def m_M_common : MI := (⟨"RowWalksModel", "common", "(JJ)J"⟩, prog_14_method_94_code, 10, (some .long))
theorem pl_M_common : plainName m_M_common.1.cls = true := by decide +kernel
theorem mk_M_common : mOK m_M_common 2 := ⟨inTB 2154 (by decide +kernel) rfl, inTB 155 (by decide +kernel) rfl, by decide +kernel, by decide +kernel, nle rfl⟩
theorem st_M_common : Cond.static m_M_common.1 ∈ TB := inTB 2153 (by decide +kernel) rfl
def m_M_pluses : MI := (⟨"RowWalksModel", "pluses", "(JJ)V"⟩, prog_14_method_95_code, 11, none)
theorem pl_M_pluses : plainName m_M_pluses.1.cls = true := by decide +kernel
theorem mk_M_pluses : mOK m_M_pluses 2 := ⟨inTB 2162 (by decide +kernel) rfl, inTB 155 (by decide +kernel) rfl, by decide +kernel, by decide +kernel, nle rfl⟩
theorem im_M_pluses : Cond.instanceMethod m_M_pluses.1 ∈ TB := inTB 2161 (by decide +kernel) rfl
theorem se_M_pluses : Cond.selects m_M_pluses.1.cls m_M_pluses.1 m_M_pluses.1 ∈ TB := inTB 125 (by decide +kernel) rfl
def m_M_swapsRows : MI := (⟨"RowWalksModel", "swapsRows", "(II)V"⟩, prog_14_method_96_code, 6, none)
theorem pl_M_swapsRows : plainName m_M_swapsRows.1.cls = true := by decide +kernel
theorem mk_M_swapsRows : mOK m_M_swapsRows 2 := ⟨inTB 2147 (by decide +kernel) rfl, inTB 155 (by decide +kernel) rfl, by decide +kernel, by decide +kernel, nle rfl⟩
theorem im_M_swapsRows : Cond.instanceMethod m_M_swapsRows.1 ∈ TB := inTB 2146 (by decide +kernel) rfl
theorem se_M_swapsRows : Cond.selects m_M_swapsRows.1.cls m_M_swapsRows.1 m_M_swapsRows.1 ∈ TB := inTB 122 (by decide +kernel) rfl
def m_M_clears : MI := (⟨"RowWalksModel", "clears", "(III)V"⟩, prog_14_method_97_code, 9, none)
theorem pl_M_clears : plainName m_M_clears.1.cls = true := by decide +kernel
theorem mk_M_clears : mOK m_M_clears 3 := ⟨inTB 2151 (by decide +kernel) rfl, inTB 155 (by decide +kernel) rfl, by decide +kernel, by decide +kernel, nle rfl⟩
theorem im_M_clears : Cond.instanceMethod m_M_clears.1 ∈ TB := inTB 2150 (by decide +kernel) rfl
theorem se_M_clears : Cond.selects m_M_clears.1.cls m_M_clears.1 m_M_clears.1 ∈ TB := inTB 123 (by decide +kernel) rfl
def m_M_comesBy : MI := (⟨"RowWalksModel", "comesBy", "(I)Z"⟩, prog_14_method_98_code, 10, (some .boolean))
theorem pl_M_comesBy : plainName m_M_comesBy.1.cls = true := by decide +kernel
theorem mk_M_comesBy : mOK m_M_comesBy 1 := ⟨inTB 2143 (by decide +kernel) rfl, inTB 155 (by decide +kernel) rfl, by decide +kernel, by decide +kernel, nle rfl⟩
theorem im_M_comesBy : Cond.instanceMethod m_M_comesBy.1 ∈ TB := inTB 2142 (by decide +kernel) rfl
theorem se_M_comesBy : Cond.selects m_M_comesBy.1.cls m_M_comesBy.1 m_M_comesBy.1 ∈ TB := inTB 121 (by decide +kernel) rfl
def m_M_gains : MI := (⟨"RowWalksModel", "gains", "()V"⟩, prog_14_method_99_code, 2, none)
theorem pl_M_gains : plainName m_M_gains.1.cls = true := by decide +kernel
theorem mk_M_gains : mOK m_M_gains 0 := ⟨inTB 2158 (by decide +kernel) rfl, inTB 155 (by decide +kernel) rfl, by decide +kernel, by decide +kernel, nle rfl⟩
theorem im_M_gains : Cond.instanceMethod m_M_gains.1 ∈ TB := inTB 2157 (by decide +kernel) rfl
theorem se_M_gains : Cond.selects m_M_gains.1.cls m_M_gains.1 m_M_gains.1 ∈ TB := inTB 124 (by decide +kernel) rfl
def m_M_aimsAtNeed : MI := (⟨"RowWalksModel", "aimsAtNeed", "()V"⟩, prog_14_method_100_code, 2, none)
theorem pl_M_aimsAtNeed : plainName m_M_aimsAtNeed.1.cls = true := by decide +kernel
theorem mk_M_aimsAtNeed : mOK m_M_aimsAtNeed 0 := ⟨inTB 2136 (by decide +kernel) rfl, inTB 155 (by decide +kernel) rfl, by decide +kernel, by decide +kernel, nle rfl⟩
theorem im_M_aimsAtNeed : Cond.instanceMethod m_M_aimsAtNeed.1 ∈ TB := inTB 2135 (by decide +kernel) rfl
theorem se_M_aimsAtNeed : Cond.selects m_M_aimsAtNeed.1.cls m_M_aimsAtNeed.1 m_M_aimsAtNeed.1 ∈ TB := inTB 120 (by decide +kernel) rfl
def m_M_many : MI := (⟨"RowWalksModel", "many", "(I)I"⟩, prog_14_method_101_code, 3, (some .int))
theorem pl_M_many : plainName m_M_many.1.cls = true := by decide +kernel
theorem mk_M_many : mOK m_M_many 1 := ⟨inTB 2139 (by decide +kernel) rfl, inTB 155 (by decide +kernel) rfl, by decide +kernel, by decide +kernel, nle rfl⟩
theorem st_M_many : Cond.static m_M_many.1 ∈ TB := inTB 2138 (by decide +kernel) rfl
def m_M_goesRound : MI := (⟨"RowWalksModel", "goesRound", "()Z"⟩, prog_14_method_102_code, 3, (some .boolean))
theorem pl_M_goesRound : plainName m_M_goesRound.1.cls = true := by decide +kernel
theorem mk_M_goesRound : mOK m_M_goesRound 0 := ⟨inTB 2174 (by decide +kernel) rfl, inTB 155 (by decide +kernel) rfl, by decide +kernel, by decide +kernel, nle rfl⟩
theorem im_M_goesRound : Cond.instanceMethod m_M_goesRound.1 ∈ TB := inTB 2173 (by decide +kernel) rfl
theorem se_M_goesRound : Cond.selects m_M_goesRound.1.cls m_M_goesRound.1 m_M_goesRound.1 ∈ TB := inTB 127 (by decide +kernel) rfl
def m_M_laysCorners : MI := (⟨"RowWalksModel", "laysCorners", "()Z"⟩, prog_14_method_103_code, 3, (some .boolean))
theorem pl_M_laysCorners : plainName m_M_laysCorners.1.cls = true := by decide +kernel
theorem mk_M_laysCorners : mOK m_M_laysCorners 0 := ⟨inTB 2132 (by decide +kernel) rfl, inTB 155 (by decide +kernel) rfl, by decide +kernel, by decide +kernel, nle rfl⟩
theorem im_M_laysCorners : Cond.instanceMethod m_M_laysCorners.1 ∈ TB := inTB 2131 (by decide +kernel) rfl
theorem se_M_laysCorners : Cond.selects m_M_laysCorners.1.cls m_M_laysCorners.1 m_M_laysCorners.1 ∈ TB := inTB 119 (by decide +kernel) rfl
def m_M_corners : MI := (⟨"RowWalksModel", "corners", "()I"⟩, prog_14_method_104_code, 2, (some .int))
theorem pl_M_corners : plainName m_M_corners.1.cls = true := by decide +kernel
theorem mk_M_corners : mOK m_M_corners 0 := ⟨inTB 2128 (by decide +kernel) rfl, inTB 155 (by decide +kernel) rfl, by decide +kernel, by decide +kernel, nle rfl⟩
theorem im_M_corners : Cond.instanceMethod m_M_corners.1 ∈ TB := inTB 2126 (by decide +kernel) rfl
theorem se_M_corners : Cond.selects m_M_corners.1.cls m_M_corners.1 m_M_corners.1 ∈ TB := inTB 2127 (by decide +kernel) rfl
def m_M_laysRelaxed : MI := (⟨"RowWalksModel", "laysRelaxed", "()Z"⟩, prog_14_method_105_code, 2, (some .boolean))
theorem pl_M_laysRelaxed : plainName m_M_laysRelaxed.1.cls = true := by decide +kernel
theorem mk_M_laysRelaxed : mOK m_M_laysRelaxed 0 := ⟨inTB 2170 (by decide +kernel) rfl, inTB 155 (by decide +kernel) rfl, by decide +kernel, by decide +kernel, nle rfl⟩
theorem im_M_laysRelaxed : Cond.instanceMethod m_M_laysRelaxed.1 ∈ TB := inTB 2169 (by decide +kernel) rfl
theorem se_M_laysRelaxed : Cond.selects m_M_laysRelaxed.1.cls m_M_laysRelaxed.1 m_M_laysRelaxed.1 ∈ TB := inTB 126 (by decide +kernel) rfl
def m_M_relaxed : MI := (⟨"RowWalksModel", "relaxed", "(I)I"⟩, prog_14_method_106_code, 2, (some .int))
theorem pl_M_relaxed : plainName m_M_relaxed.1.cls = true := by decide +kernel
theorem mk_M_relaxed : mOK m_M_relaxed 1 := ⟨inTB 2166 (by decide +kernel) rfl, inTB 155 (by decide +kernel) rfl, by decide +kernel, by decide +kernel, nle rfl⟩
theorem im_M_relaxed : Cond.instanceMethod m_M_relaxed.1 ∈ TB := inTB 2164 (by decide +kernel) rfl
theorem se_M_relaxed : Cond.selects m_M_relaxed.1.cls m_M_relaxed.1 m_M_relaxed.1 ∈ TB := inTB 2165 (by decide +kernel) rfl
def m_M_fraction : MI := (⟨"RowWalksModel", "fraction", "(II)I"⟩, prog_14_method_107_code, 3, (some .int))
theorem pl_M_fraction : plainName m_M_fraction.1.cls = true := by decide +kernel
theorem mk_M_fraction : mOK m_M_fraction 2 := ⟨inTB 2178 (by decide +kernel) rfl, inTB 155 (by decide +kernel) rfl, by decide +kernel, by decide +kernel, nle rfl⟩
theorem im_M_fraction : Cond.instanceMethod m_M_fraction.1 ∈ TB := inTB 2176 (by decide +kernel) rfl
theorem se_M_fraction : Cond.selects m_M_fraction.1.cls m_M_fraction.1 m_M_fraction.1 ∈ TB := inTB 2177 (by decide +kernel) rfl
def m_M_apart : MI := (⟨"RowWalksModel", "apart", "(I)I"⟩, prog_14_method_108_code, 5, (some .int))
theorem pl_M_apart : plainName m_M_apart.1.cls = true := by decide +kernel
theorem mk_M_apart : mOK m_M_apart 1 := ⟨inTB 2182 (by decide +kernel) rfl, inTB 155 (by decide +kernel) rfl, by decide +kernel, by decide +kernel, nle rfl⟩
theorem im_M_apart : Cond.instanceMethod m_M_apart.1 ∈ TB := inTB 2180 (by decide +kernel) rfl
theorem se_M_apart : Cond.selects m_M_apart.1.cls m_M_apart.1 m_M_apart.1 ∈ TB := inTB 2181 (by decide +kernel) rfl
def m_M_canGo : MI := (⟨"RowWalksModel", "canGo", "()Z"⟩, prog_14_method_109_code, 3, (some .boolean))
theorem pl_M_canGo : plainName m_M_canGo.1.cls = true := by decide +kernel
theorem mk_M_canGo : mOK m_M_canGo 0 := ⟨inTB 2194 (by decide +kernel) rfl, inTB 155 (by decide +kernel) rfl, by decide +kernel, by decide +kernel, nle rfl⟩
theorem im_M_canGo : Cond.instanceMethod m_M_canGo.1 ∈ TB := inTB 2193 (by decide +kernel) rfl
theorem se_M_canGo : Cond.selects m_M_canGo.1.cls m_M_canGo.1 m_M_canGo.1 ∈ TB := inTB 129 (by decide +kernel) rfl
def m_M_canCome : MI := (⟨"RowWalksModel", "canCome", "()Z"⟩, prog_14_method_110_code, 3, (some .boolean))
theorem pl_M_canCome : plainName m_M_canCome.1.cls = true := by decide +kernel
theorem mk_M_canCome : mOK m_M_canCome 0 := ⟨inTB 2202 (by decide +kernel) rfl, inTB 155 (by decide +kernel) rfl, by decide +kernel, by decide +kernel, nle rfl⟩
theorem im_M_canCome : Cond.instanceMethod m_M_canCome.1 ∈ TB := inTB 2201 (by decide +kernel) rfl
theorem se_M_canCome : Cond.selects m_M_canCome.1.cls m_M_canCome.1 m_M_canCome.1 ∈ TB := inTB 131 (by decide +kernel) rfl
def m_M_keepsExchange : MI := (⟨"RowWalksModel", "keepsExchange", "(III)V"⟩, prog_14_method_111_code, 5, none)
theorem pl_M_keepsExchange : plainName m_M_keepsExchange.1.cls = true := by decide +kernel
theorem mk_M_keepsExchange : mOK m_M_keepsExchange 3 := ⟨inTB 2206 (by decide +kernel) rfl, inTB 155 (by decide +kernel) rfl, by decide +kernel, by decide +kernel, nle rfl⟩
theorem im_M_keepsExchange : Cond.instanceMethod m_M_keepsExchange.1 ∈ TB := inTB 2205 (by decide +kernel) rfl
theorem se_M_keepsExchange : Cond.selects m_M_keepsExchange.1.cls m_M_keepsExchange.1 m_M_keepsExchange.1 ∈ TB := inTB 132 (by decide +kernel) rfl
def m_M_comesFor : MI := (⟨"RowWalksModel", "comesFor", "(III)V"⟩, prog_14_method_112_code, 7, none)
theorem pl_M_comesFor : plainName m_M_comesFor.1.cls = true := by decide +kernel
theorem mk_M_comesFor : mOK m_M_comesFor 3 := ⟨inTB 2198 (by decide +kernel) rfl, inTB 155 (by decide +kernel) rfl, by decide +kernel, by decide +kernel, nle rfl⟩
theorem im_M_comesFor : Cond.instanceMethod m_M_comesFor.1 ∈ TB := inTB 2197 (by decide +kernel) rfl
theorem se_M_comesFor : Cond.selects m_M_comesFor.1.cls m_M_comesFor.1 m_M_comesFor.1 ∈ TB := inTB 130 (by decide +kernel) rfl
def m_M_laysExchange : MI := (⟨"RowWalksModel", "laysExchange", "(I)Z"⟩, prog_14_method_113_code, 5, (some .boolean))
theorem pl_M_laysExchange : plainName m_M_laysExchange.1.cls = true := by decide +kernel
theorem mk_M_laysExchange : mOK m_M_laysExchange 1 := ⟨inTB 2190 (by decide +kernel) rfl, inTB 155 (by decide +kernel) rfl, by decide +kernel, by decide +kernel, nle rfl⟩
theorem im_M_laysExchange : Cond.instanceMethod m_M_laysExchange.1 ∈ TB := inTB 2189 (by decide +kernel) rfl
theorem se_M_laysExchange : Cond.selects m_M_laysExchange.1.cls m_M_laysExchange.1 m_M_laysExchange.1 ∈ TB := inTB 128 (by decide +kernel) rfl
def m_M_exchange : MI := (⟨"RowWalksModel", "exchange", "(II)I"⟩, prog_14_method_114_code, 4, (some .int))
theorem pl_M_exchange : plainName m_M_exchange.1.cls = true := by decide +kernel
theorem mk_M_exchange : mOK m_M_exchange 2 := ⟨inTB 2186 (by decide +kernel) rfl, inTB 155 (by decide +kernel) rfl, by decide +kernel, by decide +kernel, nle rfl⟩
theorem im_M_exchange : Cond.instanceMethod m_M_exchange.1 ∈ TB := inTB 2184 (by decide +kernel) rfl
theorem se_M_exchange : Cond.selects m_M_exchange.1.cls m_M_exchange.1 m_M_exchange.1 ∈ TB := inTB 2185 (by decide +kernel) rfl
def m_M_better : MI := (⟨"RowWalksModel", "better", "(I)I"⟩, prog_14_method_115_code, 3, (some .int))
theorem pl_M_better : plainName m_M_better.1.cls = true := by decide +kernel
theorem mk_M_better : mOK m_M_better 1 := ⟨inTB 2210 (by decide +kernel) rfl, inTB 155 (by decide +kernel) rfl, by decide +kernel, by decide +kernel, nle rfl⟩
theorem im_M_better : Cond.instanceMethod m_M_better.1 ∈ TB := inTB 2208 (by decide +kernel) rfl
theorem se_M_better : Cond.selects m_M_better.1.cls m_M_better.1 m_M_better.1 ∈ TB := inTB 2209 (by decide +kernel) rfl
def m_M_draws : MI := (⟨"RowWalksModel", "draws", "(II)V"⟩, prog_14_method_116_code, 5, none)
theorem pl_M_draws : plainName m_M_draws.1.cls = true := by decide +kernel
theorem mk_M_draws : mOK m_M_draws 2 := ⟨inTB 2218 (by decide +kernel) rfl, inTB 155 (by decide +kernel) rfl, by decide +kernel, by decide +kernel, nle rfl⟩
theorem im_M_draws : Cond.instanceMethod m_M_draws.1 ∈ TB := inTB 2217 (by decide +kernel) rfl
theorem se_M_draws : Cond.selects m_M_draws.1.cls m_M_draws.1 m_M_draws.1 ∈ TB := inTB 133 (by decide +kernel) rfl
def m_M_drawn : MI := (⟨"RowWalksModel", "drawn", "(III)I"⟩, prog_14_method_117_code, 6, (some .int))
theorem pl_M_drawn : plainName m_M_drawn.1.cls = true := by decide +kernel
theorem mk_M_drawn : mOK m_M_drawn 3 := ⟨inTB 2214 (by decide +kernel) rfl, inTB 155 (by decide +kernel) rfl, by decide +kernel, by decide +kernel, nle rfl⟩
theorem im_M_drawn : Cond.instanceMethod m_M_drawn.1 ∈ TB := inTB 2212 (by decide +kernel) rfl
theorem se_M_drawn : Cond.selects m_M_drawn.1.cls m_M_drawn.1 m_M_drawn.1 ∈ TB := inTB 2213 (by decide +kernel) rfl
def m_M_chance : MI := (⟨"RowWalksModel", "chance", "(II)I"⟩, prog_14_method_118_code, 5, (some .int))
theorem pl_M_chance : plainName m_M_chance.1.cls = true := by decide +kernel
theorem mk_M_chance : mOK m_M_chance 2 := ⟨inTB 2222 (by decide +kernel) rfl, inTB 155 (by decide +kernel) rfl, by decide +kernel, by decide +kernel, nle rfl⟩
theorem im_M_chance : Cond.instanceMethod m_M_chance.1 ∈ TB := inTB 2220 (by decide +kernel) rfl
theorem se_M_chance : Cond.selects m_M_chance.1.cls m_M_chance.1 m_M_chance.1 ∈ TB := inTB 2221 (by decide +kernel) rfl
def m_M_isFar : MI := (⟨"RowWalksModel", "isFar", "(I)Z"⟩, prog_14_method_119_code, 1, (some .boolean))
theorem pl_M_isFar : plainName m_M_isFar.1.cls = true := by decide +kernel
theorem mk_M_isFar : mOK m_M_isFar 1 := ⟨inTB 2229 (by decide +kernel) rfl, inTB 155 (by decide +kernel) rfl, by decide +kernel, by decide +kernel, nle rfl⟩
theorem st_M_isFar : Cond.static m_M_isFar.1 ∈ TB := inTB 2228 (by decide +kernel) rfl
def m_M_seen : MI := (⟨"RowWalksModel", "seen", "(IIIIZ)I"⟩, prog_14_method_120_code, 6, (some .int))
theorem pl_M_seen : plainName m_M_seen.1.cls = true := by decide +kernel
theorem mk_M_seen : mOK m_M_seen 5 := ⟨inTB 2226 (by decide +kernel) rfl, inTB 155 (by decide +kernel) rfl, by decide +kernel, by decide +kernel, nle rfl⟩
theorem im_M_seen : Cond.instanceMethod m_M_seen.1 ∈ TB := inTB 2224 (by decide +kernel) rfl
theorem se_M_seen : Cond.selects m_M_seen.1.cls m_M_seen.1 m_M_seen.1 ∈ TB := inTB 2225 (by decide +kernel) rfl
def m_M_untell : MI := (⟨"RowWalksModel", "untell", "(I)Z"⟩, prog_14_method_121_code, 2, (some .boolean))
theorem pl_M_untell : plainName m_M_untell.1.cls = true := by decide +kernel
theorem mk_M_untell : mOK m_M_untell 1 := ⟨inTB 2233 (by decide +kernel) rfl, inTB 155 (by decide +kernel) rfl, by decide +kernel, by decide +kernel, nle rfl⟩
theorem im_M_untell : Cond.instanceMethod m_M_untell.1 ∈ TB := inTB 2231 (by decide +kernel) rfl
theorem se_M_untell : Cond.selects m_M_untell.1.cls m_M_untell.1 m_M_untell.1 ∈ TB := inTB 2232 (by decide +kernel) rfl
def m_M_later : MI := (⟨"RowWalksModel", "later", "(I)I"⟩, prog_14_method_122_code, 2, (some .int))
theorem pl_M_later : plainName m_M_later.1.cls = true := by decide +kernel
theorem mk_M_later : mOK m_M_later 1 := ⟨inTB 2237 (by decide +kernel) rfl, inTB 155 (by decide +kernel) rfl, by decide +kernel, by decide +kernel, nle rfl⟩
theorem im_M_later : Cond.instanceMethod m_M_later.1 ∈ TB := inTB 2235 (by decide +kernel) rfl
theorem se_M_later : Cond.selects m_M_later.1.cls m_M_later.1 m_M_later.1 ∈ TB := inTB 2236 (by decide +kernel) rfl
def m_M_doesCount : MI := (⟨"RowWalksModel", "doesCount", "(II)Z"⟩, prog_14_method_123_code, 3, (some .boolean))
theorem pl_M_doesCount : plainName m_M_doesCount.1.cls = true := by decide +kernel
theorem mk_M_doesCount : mOK m_M_doesCount 2 := ⟨inTB 2254 (by decide +kernel) rfl, inTB 155 (by decide +kernel) rfl, by decide +kernel, by decide +kernel, nle rfl⟩
theorem im_M_doesCount : Cond.instanceMethod m_M_doesCount.1 ∈ TB := inTB 2253 (by decide +kernel) rfl
theorem se_M_doesCount : Cond.selects m_M_doesCount.1.cls m_M_doesCount.1 m_M_doesCount.1 ∈ TB := inTB 136 (by decide +kernel) rfl
def m_M_toldSum : MI := (⟨"RowWalksModel", "toldSum", "(II)I"⟩, prog_14_method_124_code, 5, (some .int))
theorem pl_M_toldSum : plainName m_M_toldSum.1.cls = true := by decide +kernel
theorem mk_M_toldSum : mOK m_M_toldSum 2 := ⟨inTB 2266 (by decide +kernel) rfl, inTB 155 (by decide +kernel) rfl, by decide +kernel, by decide +kernel, nle rfl⟩
theorem im_M_toldSum : Cond.instanceMethod m_M_toldSum.1 ∈ TB := inTB 2265 (by decide +kernel) rfl
theorem se_M_toldSum : Cond.selects m_M_toldSum.1.cls m_M_toldSum.1 m_M_toldSum.1 ∈ TB := inTB 139 (by decide +kernel) rfl
def m_M_isSum : MI := (⟨"RowWalksModel", "isSum", "(II)Z"⟩, prog_14_method_125_code, 5, (some .boolean))
theorem pl_M_isSum : plainName m_M_isSum.1.cls = true := by decide +kernel
theorem mk_M_isSum : mOK m_M_isSum 2 := ⟨inTB 2262 (by decide +kernel) rfl, inTB 155 (by decide +kernel) rfl, by decide +kernel, by decide +kernel, nle rfl⟩
theorem im_M_isSum : Cond.instanceMethod m_M_isSum.1 ∈ TB := inTB 2261 (by decide +kernel) rfl
theorem se_M_isSum : Cond.selects m_M_isSum.1.cls m_M_isSum.1 m_M_isSum.1 ∈ TB := inTB 138 (by decide +kernel) rfl
def m_M_hasSum : MI := (⟨"RowWalksModel", "hasSum", "(II)Z"⟩, prog_14_method_126_code, 4, (some .boolean))
theorem pl_M_hasSum : plainName m_M_hasSum.1.cls = true := by decide +kernel
theorem mk_M_hasSum : mOK m_M_hasSum 2 := ⟨inTB 2258 (by decide +kernel) rfl, inTB 155 (by decide +kernel) rfl, by decide +kernel, by decide +kernel, nle rfl⟩
theorem im_M_hasSum : Cond.instanceMethod m_M_hasSum.1 ∈ TB := inTB 2257 (by decide +kernel) rfl
theorem se_M_hasSum : Cond.selects m_M_hasSum.1.cls m_M_hasSum.1 m_M_hasSum.1 ∈ TB := inTB 137 (by decide +kernel) rfl
def m_M_isTurnable : MI := (⟨"RowWalksModel", "isTurnable", "(I)Z"⟩, prog_14_method_127_code, 4, (some .boolean))
theorem pl_M_isTurnable : plainName m_M_isTurnable.1.cls = true := by decide +kernel
theorem mk_M_isTurnable : mOK m_M_isTurnable 1 := ⟨inTB 2250 (by decide +kernel) rfl, inTB 155 (by decide +kernel) rfl, by decide +kernel, by decide +kernel, nle rfl⟩
theorem im_M_isTurnable : Cond.instanceMethod m_M_isTurnable.1 ∈ TB := inTB 2249 (by decide +kernel) rfl
theorem se_M_isTurnable : Cond.selects m_M_isTurnable.1.cls m_M_isTurnable.1 m_M_isTurnable.1 ∈ TB := inTB 135 (by decide +kernel) rfl
def m_M_laysFits : MI := (⟨"RowWalksModel", "laysFits", "(I)I"⟩, prog_14_method_128_code, 6, (some .int))
theorem pl_M_laysFits : plainName m_M_laysFits.1.cls = true := by decide +kernel
theorem mk_M_laysFits : mOK m_M_laysFits 1 := ⟨inTB 2246 (by decide +kernel) rfl, inTB 155 (by decide +kernel) rfl, by decide +kernel, by decide +kernel, nle rfl⟩
theorem im_M_laysFits : Cond.instanceMethod m_M_laysFits.1 ∈ TB := inTB 2245 (by decide +kernel) rfl
theorem se_M_laysFits : Cond.selects m_M_laysFits.1.cls m_M_laysFits.1 m_M_laysFits.1 ∈ TB := inTB 134 (by decide +kernel) rfl
def m_M_fits : MI := (⟨"RowWalksModel", "fits", "(I)I"⟩, prog_14_method_129_code, 2, (some .int))
theorem pl_M_fits : plainName m_M_fits.1.cls = true := by decide +kernel
theorem mk_M_fits : mOK m_M_fits 1 := ⟨inTB 2242 (by decide +kernel) rfl, inTB 155 (by decide +kernel) rfl, by decide +kernel, by decide +kernel, nle rfl⟩
theorem im_M_fits : Cond.instanceMethod m_M_fits.1 ∈ TB := inTB 2240 (by decide +kernel) rfl
theorem se_M_fits : Cond.selects m_M_fits.1.cls m_M_fits.1 m_M_fits.1 ∈ TB := inTB 2241 (by decide +kernel) rfl
def m_M_fit : MI := (⟨"RowWalksModel", "fit", "(II)I"⟩, prog_14_method_130_code, 6, (some .int))
theorem pl_M_fit : plainName m_M_fit.1.cls = true := by decide +kernel
theorem mk_M_fit : mOK m_M_fit 2 := ⟨inTB 2270 (by decide +kernel) rfl, inTB 155 (by decide +kernel) rfl, by decide +kernel, by decide +kernel, nle rfl⟩
theorem im_M_fit : Cond.instanceMethod m_M_fit.1 ∈ TB := inTB 2268 (by decide +kernel) rfl
theorem se_M_fit : Cond.selects m_M_fit.1.cls m_M_fit.1 m_M_fit.1 ∈ TB := inTB 2269 (by decide +kernel) rfl
def m_M_laysFirst : MI := (⟨"RowWalksModel", "laysFirst", "(I)V"⟩, prog_14_method_131_code, 5, none)
theorem pl_M_laysFirst : plainName m_M_laysFirst.1.cls = true := by decide +kernel
theorem mk_M_laysFirst : mOK m_M_laysFirst 1 := ⟨inTB 2278 (by decide +kernel) rfl, inTB 155 (by decide +kernel) rfl, by decide +kernel, by decide +kernel, nle rfl⟩
theorem im_M_laysFirst : Cond.instanceMethod m_M_laysFirst.1 ∈ TB := inTB 2277 (by decide +kernel) rfl
theorem se_M_laysFirst : Cond.selects m_M_laysFirst.1.cls m_M_laysFirst.1 m_M_laysFirst.1 ∈ TB := inTB 140 (by decide +kernel) rfl
def m_M_ask : MI := (⟨"RowWalksModel", "ask", "(III)I"⟩, prog_14_method_132_code, 10, (some .int))
theorem pl_M_ask : plainName m_M_ask.1.cls = true := by decide +kernel
theorem mk_M_ask : mOK m_M_ask 3 := ⟨inTB 2274 (by decide +kernel) rfl, inTB 155 (by decide +kernel) rfl, by decide +kernel, by decide +kernel, nle rfl⟩
theorem im_M_ask : Cond.instanceMethod m_M_ask.1 ∈ TB := inTB 2272 (by decide +kernel) rfl
theorem se_M_ask : Cond.selects m_M_ask.1.cls m_M_ask.1 m_M_ask.1 ∈ TB := inTB 2273 (by decide +kernel) rfl
def m_M_image : MI := (⟨"RowWalksModel", "image", "(I)I"⟩, prog_14_method_133_code, 3, (some .int))
theorem pl_M_image : plainName m_M_image.1.cls = true := by decide +kernel
theorem mk_M_image : mOK m_M_image 1 := ⟨inTB 2282 (by decide +kernel) rfl, inTB 155 (by decide +kernel) rfl, by decide +kernel, by decide +kernel, nle rfl⟩
theorem im_M_image : Cond.instanceMethod m_M_image.1 ∈ TB := inTB 2280 (by decide +kernel) rfl
theorem se_M_image : Cond.selects m_M_image.1.cls m_M_image.1 m_M_image.1 ∈ TB := inTB 2281 (by decide +kernel) rfl
def m_M_back : MI := (⟨"RowWalksModel", "back", "(I)I"⟩, prog_14_method_134_code, 3, (some .int))
theorem pl_M_back : plainName m_M_back.1.cls = true := by decide +kernel
theorem mk_M_back : mOK m_M_back 1 := ⟨inTB 2286 (by decide +kernel) rfl, inTB 155 (by decide +kernel) rfl, by decide +kernel, by decide +kernel, nle rfl⟩
theorem im_M_back : Cond.instanceMethod m_M_back.1 ∈ TB := inTB 2284 (by decide +kernel) rfl
theorem se_M_back : Cond.selects m_M_back.1.cls m_M_back.1 m_M_back.1 ∈ TB := inTB 2285 (by decide +kernel) rfl
def m_M_greatest : MI := (⟨"RowWalksModel", "greatest", "()I"⟩, prog_14_method_135_code, 4, (some .int))
theorem pl_M_greatest : plainName m_M_greatest.1.cls = true := by decide +kernel
theorem mk_M_greatest : mOK m_M_greatest 0 := ⟨inTB 2294 (by decide +kernel) rfl, inTB 155 (by decide +kernel) rfl, by decide +kernel, by decide +kernel, nle rfl⟩
theorem im_M_greatest : Cond.instanceMethod m_M_greatest.1 ∈ TB := inTB 2293 (by decide +kernel) rfl
theorem se_M_greatest : Cond.selects m_M_greatest.1.cls m_M_greatest.1 m_M_greatest.1 ∈ TB := inTB 141 (by decide +kernel) rfl
def m_M_about : MI := (⟨"RowWalksModel", "about", "(I)I"⟩, prog_14_method_136_code, 2, (some .int))
theorem pl_M_about : plainName m_M_about.1.cls = true := by decide +kernel
theorem mk_M_about : mOK m_M_about 1 := ⟨inTB 2290 (by decide +kernel) rfl, inTB 155 (by decide +kernel) rfl, by decide +kernel, by decide +kernel, nle rfl⟩
theorem im_M_about : Cond.instanceMethod m_M_about.1 ∈ TB := inTB 2288 (by decide +kernel) rfl
theorem se_M_about : Cond.selects m_M_about.1.cls m_M_about.1 m_M_about.1 ∈ TB := inTB 2289 (by decide +kernel) rfl
def m_JI_bitCount : MI := (⟨"java/lang/Integer", "bitCount", "(I)I"⟩, prog_15_method_49_code, 1, (some .int))
theorem pl_JI_bitCount : plainName m_JI_bitCount.1.cls = true := by decide +kernel
theorem mk_JI_bitCount : mOK m_JI_bitCount 1 := ⟨inTB 1343 (by decide +kernel) rfl, inTB 163 (by decide +kernel) rfl, by decide +kernel, by decide +kernel, nle rfl⟩
theorem st_JI_bitCount : Cond.static m_JI_bitCount.1 ∈ TB := inTB 1342 (by decide +kernel) rfl
def m_JM_floorDiv : MI := (⟨"java/lang/Math", "floorDiv", "(II)I"⟩, prog_16_method_47_code, 3, (some .int))
theorem pl_JM_floorDiv : plainName m_JM_floorDiv.1.cls = true := by decide +kernel
theorem mk_JM_floorDiv : mOK m_JM_floorDiv 2 := ⟨inTB 1100 (by decide +kernel) rfl, inTB 162 (by decide +kernel) rfl, by decide +kernel, by decide +kernel, nle rfl⟩
theorem st_JM_floorDiv : Cond.static m_JM_floorDiv.1 ∈ TB := inTB 1099 (by decide +kernel) rfl
def m_JM_abs : MI := (⟨"java/lang/Math", "abs", "(I)I"⟩, prog_16_method_59_code, 1, (some .int))
theorem pl_JM_abs : plainName m_JM_abs.1.cls = true := by decide +kernel
theorem mk_JM_abs : mOK m_JM_abs 1 := ⟨inTB 1067 (by decide +kernel) rfl, inTB 162 (by decide +kernel) rfl, by decide +kernel, by decide +kernel, nle rfl⟩
theorem st_JM_abs : Cond.static m_JM_abs.1 ∈ TB := inTB 1066 (by decide +kernel) rfl
def m_JM_abs_JJ : MI := (⟨"java/lang/Math", "abs", "(J)J"⟩, prog_16_method_61_code, 2, (some .long))
theorem pl_JM_abs_JJ : plainName m_JM_abs_JJ.1.cls = true := by decide +kernel
theorem mk_JM_abs_JJ : mOK m_JM_abs_JJ 1 := ⟨inTB 1379 (by decide +kernel) rfl, inTB 162 (by decide +kernel) rfl, by decide +kernel, by decide +kernel, nle rfl⟩
theorem st_JM_abs_JJ : Cond.static m_JM_abs_JJ.1 ∈ TB := inTB 1378 (by decide +kernel) rfl
def m_JM_max : MI := (⟨"java/lang/Math", "max", "(II)I"⟩, prog_16_method_65_code, 2, (some .int))
theorem pl_JM_max : plainName m_JM_max.1.cls = true := by decide +kernel
theorem mk_JM_max : mOK m_JM_max 2 := ⟨inTB 968 (by decide +kernel) rfl, inTB 162 (by decide +kernel) rfl, by decide +kernel, by decide +kernel, nle rfl⟩
theorem st_JM_max : Cond.static m_JM_max.1 ∈ TB := inTB 967 (by decide +kernel) rfl
def m_JM_min : MI := (⟨"java/lang/Math", "min", "(II)I"⟩, prog_16_method_69_code, 2, (some .int))
theorem pl_JM_min : plainName m_JM_min.1.cls = true := by decide +kernel
theorem mk_JM_min : mOK m_JM_min 2 := ⟨inTB 1188 (by decide +kernel) rfl, inTB 162 (by decide +kernel) rfl, by decide +kernel, by decide +kernel, nle rfl⟩
theorem st_JM_min : Cond.static m_JM_min.1 ∈ TB := inTB 1187 (by decide +kernel) rfl
def m_JS_length : MI := (⟨"java/lang/String", "length", "()I"⟩, prog_17_method_54_code, 1, (some .int))
theorem pl_JS_length : plainName m_JS_length.1.cls = true := by decide +kernel
theorem mk_JS_length : mOK m_JS_length 0 := ⟨inTB 758 (by decide +kernel) rfl, inTB 157 (by decide +kernel) rfl, by decide +kernel, by decide +kernel, nle rfl⟩
theorem im_JS_length : Cond.instanceMethod m_JS_length.1 ∈ TB := inTB 756 (by decide +kernel) rfl
theorem se_JS_length : Cond.selects m_JS_length.1.cls m_JS_length.1 m_JS_length.1 ∈ TB := inTB 757 (by decide +kernel) rfl
def m_JS_charAt : MI := (⟨"java/lang/String", "charAt", "(I)C"⟩, prog_17_method_56_code, 2, (some .char))
theorem pl_JS_charAt : plainName m_JS_charAt.1.cls = true := by decide +kernel
theorem mk_JS_charAt : mOK m_JS_charAt 1 := ⟨inTB 768 (by decide +kernel) rfl, inTB 157 (by decide +kernel) rfl, by decide +kernel, by decide +kernel, nle rfl⟩
theorem im_JS_charAt : Cond.instanceMethod m_JS_charAt.1 ∈ TB := inTB 766 (by decide +kernel) rfl
theorem se_JS_charAt : Cond.selects m_JS_charAt.1.cls m_JS_charAt.1 m_JS_charAt.1 ∈ TB := inTB 767 (by decide +kernel) rfl
def m_JS_coder : MI := (⟨"java/lang/String", "coder", "()B"⟩, prog_17_method_152_code, 1, (some .byte))
theorem pl_JS_coder : plainName m_JS_coder.1.cls = true := by decide +kernel
theorem mk_JS_coder : mOK m_JS_coder 0 := ⟨inTB 762 (by decide +kernel) rfl, inTB 157 (by decide +kernel) rfl, by decide +kernel, by decide +kernel, nle rfl⟩
theorem im_JS_coder : Cond.instanceMethod m_JS_coder.1 ∈ TB := inTB 760 (by decide +kernel) rfl
theorem se_JS_coder : Cond.selects m_JS_coder.1.cls m_JS_coder.1 m_JS_coder.1 ∈ TB := inTB 761 (by decide +kernel) rfl
def m_JS_isLatin1 : MI := (⟨"java/lang/String", "isLatin1", "()Z"⟩, prog_17_method_154_code, 1, (some .boolean))
theorem pl_JS_isLatin1 : plainName m_JS_isLatin1.1.cls = true := by decide +kernel
theorem mk_JS_isLatin1 : mOK m_JS_isLatin1 0 := ⟨inTB 772 (by decide +kernel) rfl, inTB 157 (by decide +kernel) rfl, by decide +kernel, by decide +kernel, nle rfl⟩
theorem im_JS_isLatin1 : Cond.instanceMethod m_JS_isLatin1.1 ∈ TB := inTB 770 (by decide +kernel) rfl
theorem se_JS_isLatin1 : Cond.selects m_JS_isLatin1.1.cls m_JS_isLatin1.1 m_JS_isLatin1.1 ∈ TB := inTB 771 (by decide +kernel) rfl
def m_JS_checkIndex : MI := (⟨"java/lang/String", "checkIndex", "(II)V"⟩, prog_17_method_155_code, 2, none)
theorem pl_JS_checkIndex : plainName m_JS_checkIndex.1.cls = true := by decide +kernel
theorem mk_JS_checkIndex : mOK m_JS_checkIndex 2 := ⟨inTB 778 (by decide +kernel) rfl, inTB 157 (by decide +kernel) rfl, by decide +kernel, by decide +kernel, nle rfl⟩
theorem st_JS_checkIndex : Cond.static m_JS_checkIndex.1 ∈ TB := inTB 777 (by decide +kernel) rfl
def m_JL_charAt : MI := (⟨"java/lang/StringLatin1", "charAt", "([BI)C"⟩, prog_18_method_2_code, 2, (some .char))
theorem pl_JL_charAt : plainName m_JL_charAt.1.cls = true := by decide +kernel
theorem mk_JL_charAt : mOK m_JL_charAt 2 := ⟨inTB 775 (by decide +kernel) rfl, inTB 158 (by decide +kernel) rfl, by decide +kernel, by decide +kernel, nle rfl⟩
theorem st_JL_charAt : Cond.static m_JL_charAt.1 ∈ TB := inTB 774 (by decide +kernel) rfl
def m_JA_fill : MI := (⟨"java/util/Arrays", "fill", "([JJ)V"⟩, prog_21_method_101_code, 5, none)
theorem pl_JA_fill : plainName m_JA_fill.1.cls = true := by decide +kernel
theorem mk_JA_fill : mOK m_JA_fill 2 := ⟨inTB 1373 (by decide +kernel) rfl, inTB 156 (by decide +kernel) rfl, by decide +kernel, by decide +kernel, nle rfl⟩
theorem st_JA_fill : Cond.static m_JA_fill.1 ∈ TB := inTB 1372 (by decide +kernel) rfl
def m_JA_fill_IIV : MI := (⟨"java/util/Arrays", "fill", "([II)V"⟩, prog_21_method_103_code, 4, none)
theorem pl_JA_fill_IIV : plainName m_JA_fill_IIV.1.cls = true := by decide +kernel
theorem mk_JA_fill_IIV : mOK m_JA_fill_IIV 2 := ⟨inTB 721 (by decide +kernel) rfl, inTB 156 (by decide +kernel) rfl, by decide +kernel, by decide +kernel, nle rfl⟩
theorem st_JA_fill_IIV : Cond.static m_JA_fill_IIV.1 ∈ TB := inTB 720 (by decide +kernel) rfl
def m_JP_checkIndex : MI := (⟨"jdk/internal/util/Preconditions", "checkIndex", "(IILjava/util/function/BiFunction;)I"⟩, prog_22_method_11_code, 3, (some .int))
theorem pl_JP_checkIndex : plainName m_JP_checkIndex.1.cls = true := by decide +kernel
theorem mk_JP_checkIndex : mOK m_JP_checkIndex 3 := ⟨inTB 783 (by decide +kernel) rfl, inTB 159 (by decide +kernel) rfl, by decide +kernel, by decide +kernel, nle rfl⟩
theorem st_JP_checkIndex : Cond.static m_JP_checkIndex.1 ∈ TB := inTB 782 (by decide +kernel) rfl
def m_L_law : MI := (⟨"RowWalksLaw", "law", "([I)Z"⟩, code, 4, (some .boolean))
theorem kc_m99 : Int32.ofInt (-99) = (-99) := by decide
theorem kb_m99 : (Int8.ofInt (-99)).toInt32 = (-99) := by decide
theorem ks_m99 : (Int16.ofInt (-99)).toInt32 = (-99) := by decide
theorem kc_m80 : Int32.ofInt (-80) = (-80) := by decide
theorem kb_m80 : (Int8.ofInt (-80)).toInt32 = (-80) := by decide
theorem ks_m80 : (Int16.ofInt (-80)).toInt32 = (-80) := by decide
theorem kc_m20 : Int32.ofInt (-20) = (-20) := by decide
theorem kb_m20 : (Int8.ofInt (-20)).toInt32 = (-20) := by decide
theorem ks_m20 : (Int16.ofInt (-20)).toInt32 = (-20) := by decide
theorem kc_m8 : Int32.ofInt (-8) = (-8) := by decide
theorem kb_m8 : (Int8.ofInt (-8)).toInt32 = (-8) := by decide
theorem ks_m8 : (Int16.ofInt (-8)).toInt32 = (-8) := by decide
theorem kc_m5 : Int32.ofInt (-5) = (-5) := by decide
theorem kb_m5 : (Int8.ofInt (-5)).toInt32 = (-5) := by decide
theorem ks_m5 : (Int16.ofInt (-5)).toInt32 = (-5) := by decide
theorem kc_m2 : Int32.ofInt (-2) = (-2) := by decide
theorem kb_m2 : (Int8.ofInt (-2)).toInt32 = (-2) := by decide
theorem ks_m2 : (Int16.ofInt (-2)).toInt32 = (-2) := by decide
theorem kc_m1 : Int32.ofInt (-1) = (-1) := by decide
theorem kb_m1 : (Int8.ofInt (-1)).toInt32 = (-1) := by decide
theorem ks_m1 : (Int16.ofInt (-1)).toInt32 = (-1) := by decide
theorem kc_0 : Int32.ofInt (0) = 0 := by decide
theorem kb_0 : (Int8.ofInt (0)).toInt32 = (0) := by decide
theorem ks_0 : (Int16.ofInt (0)).toInt32 = (0) := by decide
theorem kc_1 : Int32.ofInt (1) = 1 := by decide
theorem kb_1 : (Int8.ofInt (1)).toInt32 = (1) := by decide
theorem ks_1 : (Int16.ofInt (1)).toInt32 = (1) := by decide
theorem kc_2 : Int32.ofInt (2) = 2 := by decide
theorem kb_2 : (Int8.ofInt (2)).toInt32 = (2) := by decide
theorem ks_2 : (Int16.ofInt (2)).toInt32 = (2) := by decide
theorem kc_3 : Int32.ofInt (3) = 3 := by decide
theorem kb_3 : (Int8.ofInt (3)).toInt32 = (3) := by decide
theorem ks_3 : (Int16.ofInt (3)).toInt32 = (3) := by decide
theorem kc_4 : Int32.ofInt (4) = 4 := by decide
theorem kb_4 : (Int8.ofInt (4)).toInt32 = (4) := by decide
theorem ks_4 : (Int16.ofInt (4)).toInt32 = (4) := by decide
theorem kc_5 : Int32.ofInt (5) = 5 := by decide
theorem kb_5 : (Int8.ofInt (5)).toInt32 = (5) := by decide
theorem ks_5 : (Int16.ofInt (5)).toInt32 = (5) := by decide
theorem kc_6 : Int32.ofInt (6) = 6 := by decide
theorem kb_6 : (Int8.ofInt (6)).toInt32 = (6) := by decide
theorem ks_6 : (Int16.ofInt (6)).toInt32 = (6) := by decide
theorem kc_7 : Int32.ofInt (7) = 7 := by decide
theorem kb_7 : (Int8.ofInt (7)).toInt32 = (7) := by decide
theorem ks_7 : (Int16.ofInt (7)).toInt32 = (7) := by decide
theorem kc_8 : Int32.ofInt (8) = 8 := by decide
theorem kb_8 : (Int8.ofInt (8)).toInt32 = (8) := by decide
theorem ks_8 : (Int16.ofInt (8)).toInt32 = (8) := by decide
theorem kc_9 : Int32.ofInt (9) = 9 := by decide
theorem kb_9 : (Int8.ofInt (9)).toInt32 = (9) := by decide
theorem ks_9 : (Int16.ofInt (9)).toInt32 = (9) := by decide
theorem kc_10 : Int32.ofInt (10) = 10 := by decide
theorem kb_10 : (Int8.ofInt (10)).toInt32 = (10) := by decide
theorem ks_10 : (Int16.ofInt (10)).toInt32 = (10) := by decide
theorem kc_12 : Int32.ofInt (12) = 12 := by decide
theorem kb_12 : (Int8.ofInt (12)).toInt32 = (12) := by decide
theorem ks_12 : (Int16.ofInt (12)).toInt32 = (12) := by decide
theorem kc_13 : Int32.ofInt (13) = 13 := by decide
theorem kb_13 : (Int8.ofInt (13)).toInt32 = (13) := by decide
theorem ks_13 : (Int16.ofInt (13)).toInt32 = (13) := by decide
theorem kc_15 : Int32.ofInt (15) = 15 := by decide
theorem kb_15 : (Int8.ofInt (15)).toInt32 = (15) := by decide
theorem ks_15 : (Int16.ofInt (15)).toInt32 = (15) := by decide
theorem kc_16 : Int32.ofInt (16) = 16 := by decide
theorem kb_16 : (Int8.ofInt (16)).toInt32 = (16) := by decide
theorem ks_16 : (Int16.ofInt (16)).toInt32 = (16) := by decide
theorem kc_20 : Int32.ofInt (20) = 20 := by decide
theorem kb_20 : (Int8.ofInt (20)).toInt32 = (20) := by decide
theorem ks_20 : (Int16.ofInt (20)).toInt32 = (20) := by decide
theorem kc_24 : Int32.ofInt (24) = 24 := by decide
theorem kb_24 : (Int8.ofInt (24)).toInt32 = (24) := by decide
theorem ks_24 : (Int16.ofInt (24)).toInt32 = (24) := by decide
theorem kc_25 : Int32.ofInt (25) = 25 := by decide
theorem kb_25 : (Int8.ofInt (25)).toInt32 = (25) := by decide
theorem ks_25 : (Int16.ofInt (25)).toInt32 = (25) := by decide
theorem kc_31 : Int32.ofInt (31) = 31 := by decide
theorem kb_31 : (Int8.ofInt (31)).toInt32 = (31) := by decide
theorem ks_31 : (Int16.ofInt (31)).toInt32 = (31) := by decide
theorem kc_32 : Int32.ofInt (32) = 32 := by decide
theorem kb_32 : (Int8.ofInt (32)).toInt32 = (32) := by decide
theorem ks_32 : (Int16.ofInt (32)).toInt32 = (32) := by decide
theorem kc_35 : Int32.ofInt (35) = 35 := by decide
theorem kb_35 : (Int8.ofInt (35)).toInt32 = (35) := by decide
theorem ks_35 : (Int16.ofInt (35)).toInt32 = (35) := by decide
theorem kc_36 : Int32.ofInt (36) = 36 := by decide
theorem kb_36 : (Int8.ofInt (36)).toInt32 = (36) := by decide
theorem ks_36 : (Int16.ofInt (36)).toInt32 = (36) := by decide
theorem kc_39 : Int32.ofInt (39) = 39 := by decide
theorem kb_39 : (Int8.ofInt (39)).toInt32 = (39) := by decide
theorem ks_39 : (Int16.ofInt (39)).toInt32 = (39) := by decide
theorem kc_40 : Int32.ofInt (40) = 40 := by decide
theorem kb_40 : (Int8.ofInt (40)).toInt32 = (40) := by decide
theorem ks_40 : (Int16.ofInt (40)).toInt32 = (40) := by decide
theorem kc_41 : Int32.ofInt (41) = 41 := by decide
theorem kb_41 : (Int8.ofInt (41)).toInt32 = (41) := by decide
theorem ks_41 : (Int16.ofInt (41)).toInt32 = (41) := by decide
theorem kc_44 : Int32.ofInt (44) = 44 := by decide
theorem kb_44 : (Int8.ofInt (44)).toInt32 = (44) := by decide
theorem ks_44 : (Int16.ofInt (44)).toInt32 = (44) := by decide
theorem kc_45 : Int32.ofInt (45) = 45 := by decide
theorem kb_45 : (Int8.ofInt (45)).toInt32 = (45) := by decide
theorem ks_45 : (Int16.ofInt (45)).toInt32 = (45) := by decide
theorem kc_48 : Int32.ofInt (48) = 48 := by decide
theorem kb_48 : (Int8.ofInt (48)).toInt32 = (48) := by decide
theorem ks_48 : (Int16.ofInt (48)).toInt32 = (48) := by decide
theorem kc_57 : Int32.ofInt (57) = 57 := by decide
theorem kb_57 : (Int8.ofInt (57)).toInt32 = (57) := by decide
theorem ks_57 : (Int16.ofInt (57)).toInt32 = (57) := by decide
theorem kc_59 : Int32.ofInt (59) = 59 := by decide
theorem kb_59 : (Int8.ofInt (59)).toInt32 = (59) := by decide
theorem ks_59 : (Int16.ofInt (59)).toInt32 = (59) := by decide
theorem kc_60 : Int32.ofInt (60) = 60 := by decide
theorem kb_60 : (Int8.ofInt (60)).toInt32 = (60) := by decide
theorem ks_60 : (Int16.ofInt (60)).toInt32 = (60) := by decide
theorem kc_63 : Int32.ofInt (63) = 63 := by decide
theorem kb_63 : (Int8.ofInt (63)).toInt32 = (63) := by decide
theorem ks_63 : (Int16.ofInt (63)).toInt32 = (63) := by decide
theorem kc_64 : Int32.ofInt (64) = 64 := by decide
theorem kb_64 : (Int8.ofInt (64)).toInt32 = (64) := by decide
theorem ks_64 : (Int16.ofInt (64)).toInt32 = (64) := by decide
theorem kc_71 : Int32.ofInt (71) = 71 := by decide
theorem kb_71 : (Int8.ofInt (71)).toInt32 = (71) := by decide
theorem ks_71 : (Int16.ofInt (71)).toInt32 = (71) := by decide
theorem kc_80 : Int32.ofInt (80) = 80 := by decide
theorem kb_80 : (Int8.ofInt (80)).toInt32 = (80) := by decide
theorem ks_80 : (Int16.ofInt (80)).toInt32 = (80) := by decide
theorem kc_81 : Int32.ofInt (81) = 81 := by decide
theorem kb_81 : (Int8.ofInt (81)).toInt32 = (81) := by decide
theorem ks_81 : (Int16.ofInt (81)).toInt32 = (81) := by decide
theorem kc_88 : Int32.ofInt (88) = 88 := by decide
theorem kb_88 : (Int8.ofInt (88)).toInt32 = (88) := by decide
theorem ks_88 : (Int16.ofInt (88)).toInt32 = (88) := by decide
theorem kc_97 : Int32.ofInt (97) = 97 := by decide
theorem kb_97 : (Int8.ofInt (97)).toInt32 = (97) := by decide
theorem ks_97 : (Int16.ofInt (97)).toInt32 = (97) := by decide
theorem kc_99 : Int32.ofInt (99) = 99 := by decide
theorem kb_99 : (Int8.ofInt (99)).toInt32 = (99) := by decide
theorem ks_99 : (Int16.ofInt (99)).toInt32 = (99) := by decide
theorem kc_100 : Int32.ofInt (100) = 100 := by decide
theorem kb_100 : (Int8.ofInt (100)).toInt32 = (100) := by decide
theorem ks_100 : (Int16.ofInt (100)).toInt32 = (100) := by decide
theorem kc_121 : Int32.ofInt (121) = 121 := by decide
theorem kb_121 : (Int8.ofInt (121)).toInt32 = (121) := by decide
theorem ks_121 : (Int16.ofInt (121)).toInt32 = (121) := by decide
theorem kc_122 : Int32.ofInt (122) = 122 := by decide
theorem kb_122 : (Int8.ofInt (122)).toInt32 = (122) := by decide
theorem ks_122 : (Int16.ofInt (122)).toInt32 = (122) := by decide
theorem kc_137 : Int32.ofInt (137) = 137 := by decide
theorem ks_137 : (Int16.ofInt (137)).toInt32 = (137) := by decide
theorem kc_160 : Int32.ofInt (160) = 160 := by decide
theorem ks_160 : (Int16.ofInt (160)).toInt32 = (160) := by decide
theorem kc_162 : Int32.ofInt (162) = 162 := by decide
theorem ks_162 : (Int16.ofInt (162)).toInt32 = (162) := by decide
theorem kc_165 : Int32.ofInt (165) = 165 := by decide
theorem ks_165 : (Int16.ofInt (165)).toInt32 = (165) := by decide
theorem kc_200 : Int32.ofInt (200) = 200 := by decide
theorem ks_200 : (Int16.ofInt (200)).toInt32 = (200) := by decide
theorem kc_255 : Int32.ofInt (255) = 255 := by decide
theorem ks_255 : (Int16.ofInt (255)).toInt32 = (255) := by decide
theorem kc_343 : Int32.ofInt (343) = 343 := by decide
theorem ks_343 : (Int16.ofInt (343)).toInt32 = (343) := by decide
theorem kc_369 : Int32.ofInt (369) = 369 := by decide
theorem ks_369 : (Int16.ofInt (369)).toInt32 = (369) := by decide
theorem kc_700 : Int32.ofInt (700) = 700 := by decide
theorem ks_700 : (Int16.ofInt (700)).toInt32 = (700) := by decide
theorem kc_880 : Int32.ofInt (880) = 880 := by decide
theorem ks_880 : (Int16.ofInt (880)).toInt32 = (880) := by decide
theorem kc_1000 : Int32.ofInt (1000) = 1000 := by decide
theorem ks_1000 : (Int16.ofInt (1000)).toInt32 = (1000) := by decide
theorem kc_1296 : Int32.ofInt (1296) = 1296 := by decide
theorem ks_1296 : (Int16.ofInt (1296)).toInt32 = (1296) := by decide
theorem kc_2058 : Int32.ofInt (2058) = 2058 := by decide
theorem ks_2058 : (Int16.ofInt (2058)).toInt32 = (2058) := by decide
theorem kc_6000 : Int32.ofInt (6000) = 6000 := by decide
theorem ks_6000 : (Int16.ofInt (6000)).toInt32 = (6000) := by decide
theorem kc_6561 : Int32.ofInt (6561) = 6561 := by decide
theorem ks_6561 : (Int16.ofInt (6561)).toInt32 = (6561) := by decide
theorem kc_7919 : Int32.ofInt (7919) = 7919 := by decide
theorem ks_7919 : (Int16.ofInt (7919)).toInt32 = (7919) := by decide
theorem kc_9999 : Int32.ofInt (9999) = 9999 := by decide
theorem ks_9999 : (Int16.ofInt (9999)).toInt32 = (9999) := by decide
theorem kc_10007 : Int32.ofInt (10007) = 10007 := by decide
theorem ks_10007 : (Int16.ofInt (10007)).toInt32 = (10007) := by decide
