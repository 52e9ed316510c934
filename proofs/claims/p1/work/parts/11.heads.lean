/-! the methods (by program) -/
def M_L_law : MD := (⟨"PlanningHouseLaw", "law", "([I)Z"⟩, code, 4, (some .boolean))
def M_X11_init : MD := (⟨"PlanningHouse", "<init>", "()V"⟩, prog_1_method_1_code, 1, none)
theorem mk_X11_init : MK M_X11_init 0 := ⟨(inT1 (List.mem_of_getElem? (i := 27) rfl) rfl), (inT1 (List.mem_of_getElem? (i := 1) rfl) rfl), ⟨by decide, by decide, by decide +kernel⟩, by decide, by decide⟩
theorem mi_X11_init : MI M_X11_init := ⟨rfl, (inT1 (List.mem_of_getElem? (i := 26) rfl) rfl), rfl⟩
def M_X0_init : MD := (⟨"PlanningHouse$Bytes", "<init>", "()V"⟩, prog_2_method_1_code, 1, none)
theorem mk_X0_init : MK M_X0_init 0 := ⟨(inT1 (List.mem_of_getElem? (i := 35) rfl) rfl), (inT1 (List.mem_of_getElem? (i := 2) rfl) rfl), ⟨by decide, by decide, by decide +kernel⟩, by decide, by decide⟩
theorem mi_X0_init : MI M_X0_init := ⟨rfl, (inT1 (List.mem_of_getElem? (i := 34) rfl) rfl), rfl⟩
def M_X10_init : MD := (⟨"PlanningHouse$Tokens", "<init>", "()V"⟩, prog_12_method_1_code, 1, none)
theorem mk_X10_init : MK M_X10_init 0 := ⟨(inT1 (List.mem_of_getElem? (i := 53) rfl) rfl), (inT1 (List.mem_of_getElem? (i := 3) rfl) rfl), ⟨by decide, by decide, by decide +kernel⟩, by decide, by decide⟩
theorem mi_X10_init : MI M_X10_init := ⟨rfl, (inT1 (List.mem_of_getElem? (i := 52) rfl) rfl), rfl⟩
def M_X5_init : MD := (⟨"PlanningHouse$Reader", "<init>", "(LPlanningHouse$Tokens;)V"⟩, prog_7_method_1_code, 2, none)
theorem mk_X5_init : MK M_X5_init 1 := ⟨(inT1 (List.mem_of_getElem? (i := 112) rfl) rfl), (inT1 (List.mem_of_getElem? (i := 4) rfl) rfl), ⟨by decide, by decide, by decide +kernel⟩, by decide, by decide⟩
theorem mi_X5_init : MI M_X5_init := ⟨rfl, (inT1 (List.mem_of_getElem? (i := 111) rfl) rfl), rfl⟩
def M_X1_init : MD := (⟨"PlanningHouse$Hard", "<init>", "()V"⟩, prog_3_method_1_code, 1, none)
theorem mk_X1_init : MK M_X1_init 0 := ⟨(inT1 (List.mem_of_getElem? (i := 154) rfl) rfl), (inT1 (List.mem_of_getElem? (i := 5) rfl) rfl), ⟨by decide, by decide, by decide +kernel⟩, by decide, by decide⟩
theorem mi_X1_init : MI M_X1_init := ⟨rfl, (inT1 (List.mem_of_getElem? (i := 153) rfl) rfl), rfl⟩
def M_X6_init : MD := (⟨"PlanningHouse$Search", "<init>", "()V"⟩, prog_8_method_1_code, 1, none)
theorem mk_X6_init : MK M_X6_init 0 := ⟨(inT1 (List.mem_of_getElem? (i := 181) rfl) rfl), (inT1 (List.mem_of_getElem? (i := 6) rfl) rfl), ⟨by decide, by decide, by decide +kernel⟩, by decide, by decide⟩
theorem mi_X6_init : MI M_X6_init := ⟨rfl, (inT1 (List.mem_of_getElem? (i := 180) rfl) rfl), rfl⟩
def M_X4_init : MD := (⟨"PlanningHouse$Proof", "<init>", "(LPlanningHouse$Tokens;)V"⟩, prog_6_method_1_code, 2, none)
theorem mk_X4_init : MK M_X4_init 1 := ⟨(inT1 (List.mem_of_getElem? (i := 234) rfl) rfl), (inT1 (List.mem_of_getElem? (i := 7) rfl) rfl), ⟨by decide, by decide, by decide +kernel⟩, by decide, by decide⟩
theorem mi_X4_init : MI M_X4_init := ⟨rfl, (inT1 (List.mem_of_getElem? (i := 233) rfl) rfl), rfl⟩
def M_X8_init : MD := (⟨"PlanningHouse$Store", "<init>", "()V"⟩, prog_10_method_1_code, 1, none)
theorem mk_X8_init : MK M_X8_init 0 := ⟨(inT2 (List.mem_of_getElem? (i := 10) rfl) rfl), (inT1 (List.mem_of_getElem? (i := 8) rfl) rfl), ⟨by decide, by decide, by decide +kernel⟩, by decide, by decide⟩
theorem mi_X8_init : MI M_X8_init := ⟨rfl, (inT2 (List.mem_of_getElem? (i := 9) rfl) rfl), rfl⟩
def M_X12_init : MD := (⟨"PlanningHouseModel", "<init>", "()V"⟩, prog_14_method_1_code, 1, none)
theorem mk_X12_init : MK M_X12_init 0 := ⟨(inT8 (List.mem_of_getElem? (i := 104) rfl) rfl), (inT1 (List.mem_of_getElem? (i := 9) rfl) rfl), ⟨by decide, by decide, by decide +kernel⟩, by decide, by decide⟩
theorem mi_X12_init : MI M_X12_init := ⟨rfl, (inT8 (List.mem_of_getElem? (i := 103) rfl) rfl), rfl⟩
def M_X11_bring : MD := (⟨"PlanningHouse", "bring", "()I"⟩, prog_1_method_66_code, 5, (some .int))
theorem mk_X11_bring : MK M_X11_bring 0 := ⟨(inT8 (List.mem_of_getElem? (i := 81) rfl) rfl), (inT1 (List.mem_of_getElem? (i := 1) rfl) rfl), ⟨by decide, by decide, by decide +kernel⟩, by decide, by decide⟩
theorem mv_X11_bring : MV M_X11_bring := ⟨(inT8 (List.mem_of_getElem? (i := 79) rfl) rfl), (inT8 (List.mem_of_getElem? (i := 80) rfl) rfl)⟩
def M_X8_announced : MD := (⟨"PlanningHouse$Store", "announced", "(LPlanningHouse$Bytes;)I"⟩, prog_10_method_11_code, 3, (some .int))
theorem mk_X8_announced : MK M_X8_announced 1 := ⟨(inT8 (List.mem_of_getElem? (i := 85) rfl) rfl), (inT1 (List.mem_of_getElem? (i := 8) rfl) rfl), ⟨by decide, by decide, by decide +kernel⟩, by decide, by decide⟩
theorem mv_X8_announced : MV M_X8_announced := ⟨(inT8 (List.mem_of_getElem? (i := 83) rfl) rfl), (inT8 (List.mem_of_getElem? (i := 84) rfl) rfl)⟩
def M_X0_sum : MD := (⟨"PlanningHouse$Bytes", "sum", "(II)J"⟩, prog_2_method_10_code, 6, (some .long))
theorem mk_X0_sum : MK M_X0_sum 2 := ⟨(inT8 (List.mem_of_getElem? (i := 23) rfl) rfl), (inT1 (List.mem_of_getElem? (i := 2) rfl) rfl), ⟨by decide, by decide, by decide +kernel⟩, by decide, by decide⟩
theorem mv_X0_sum : MV M_X0_sum := ⟨(inT8 (List.mem_of_getElem? (i := 21) rfl) rfl), (inT8 (List.mem_of_getElem? (i := 22) rfl) rfl)⟩
def M_X0_at : MD := (⟨"PlanningHouse$Bytes", "at", "(I)I"⟩, prog_2_method_2_code, 2, (some .int))
theorem mk_X0_at : MK M_X0_at 1 := ⟨(inT2 (List.mem_of_getElem? (i := 120) rfl) rfl), (inT1 (List.mem_of_getElem? (i := 2) rfl) rfl), ⟨by decide, by decide, by decide +kernel⟩, by decide, by decide⟩
theorem mv_X0_at : MV M_X0_at := ⟨(inT2 (List.mem_of_getElem? (i := 118) rfl) rfl), (inT2 (List.mem_of_getElem? (i := 119) rfl) rfl)⟩
def M_X0_number : MD := (⟨"PlanningHouse$Bytes", "number", "(II)J"⟩, prog_2_method_9_code, 6, (some .long))
theorem mk_X0_number : MK M_X0_number 2 := ⟨(inT8 (List.mem_of_getElem? (i := 42) rfl) rfl), (inT1 (List.mem_of_getElem? (i := 2) rfl) rfl), ⟨by decide, by decide, by decide +kernel⟩, by decide, by decide⟩
theorem mv_X0_number : MV M_X0_number := ⟨(inT8 (List.mem_of_getElem? (i := 40) rfl) rfl), (inT8 (List.mem_of_getElem? (i := 41) rfl) rfl)⟩
def M_X3_init : MD := (⟨"PlanningHouse$Problem", "<init>", "()V"⟩, prog_5_method_1_code, 1, none)
theorem mk_X3_init : MK M_X3_init 0 := ⟨(inT2 (List.mem_of_getElem? (i := 144) rfl) rfl), (inT1 (List.mem_of_getElem? (i := 13) rfl) rfl), ⟨by decide, by decide, by decide +kernel⟩, by decide, by decide⟩
theorem mi_X3_init : MI M_X3_init := ⟨rfl, (inT2 (List.mem_of_getElem? (i := 143) rfl) rfl), rfl⟩
def M_X7_init : MD := (⟨"PlanningHouse$Space", "<init>", "()V"⟩, prog_9_method_1_code, 1, none)
theorem mk_X7_init : MK M_X7_init 0 := ⟨(inT2 (List.mem_of_getElem? (i := 152) rfl) rfl), (inT1 (List.mem_of_getElem? (i := 14) rfl) rfl), ⟨by decide, by decide, by decide +kernel⟩, by decide, by decide⟩
theorem mi_X7_init : MI M_X7_init := ⟨rfl, (inT2 (List.mem_of_getElem? (i := 151) rfl) rfl), rfl⟩
def M_X2_init : MD := (⟨"PlanningHouse$Judge", "<init>", "()V"⟩, prog_4_method_1_code, 1, none)
theorem mk_X2_init : MK M_X2_init 0 := ⟨(inT2 (List.mem_of_getElem? (i := 192) rfl) rfl), (inT1 (List.mem_of_getElem? (i := 15) rfl) rfl), ⟨by decide, by decide, by decide +kernel⟩, by decide, by decide⟩
theorem mi_X2_init : MI M_X2_init := ⟨rfl, (inT2 (List.mem_of_getElem? (i := 191) rfl) rfl), rfl⟩
def M_X9_init : MD := (⟨"PlanningHouse$Table", "<init>", "()V"⟩, prog_11_method_1_code, 1, none)
theorem mk_X9_init : MK M_X9_init 0 := ⟨(inT3 (List.mem_of_getElem? (i := 19) rfl) rfl), (inT1 (List.mem_of_getElem? (i := 16) rfl) rfl), ⟨by decide, by decide, by decide +kernel⟩, by decide, by decide⟩
theorem mi_X9_init : MI M_X9_init := ⟨rfl, (inT3 (List.mem_of_getElem? (i := 18) rfl) rfl), rfl⟩
def M_X8_textLength : MD := (⟨"PlanningHouse$Store", "textLength", "(LPlanningHouse$Bytes;I)I"⟩, prog_10_method_6_code, 4, (some .int))
theorem mk_X8_textLength : MK M_X8_textLength 2 := ⟨(inT8 (List.mem_of_getElem? (i := 37) rfl) rfl), (inT1 (List.mem_of_getElem? (i := 8) rfl) rfl), ⟨by decide, by decide, by decide +kernel⟩, by decide, by decide⟩
theorem mv_X8_textLength : MV M_X8_textLength := ⟨(inT8 (List.mem_of_getElem? (i := 35) rfl) rfl), (inT8 (List.mem_of_getElem? (i := 36) rfl) rfl)⟩
def M_X0_become : MD := (⟨"PlanningHouse$Bytes", "become", "(LPlanningHouse$Bytes;II)V"⟩, prog_2_method_8_code, 4, none)
theorem mk_X0_become : MK M_X0_become 3 := ⟨(inT3 (List.mem_of_getElem? (i := 164) rfl) rfl), (inT1 (List.mem_of_getElem? (i := 2) rfl) rfl), ⟨by decide, by decide, by decide +kernel⟩, by decide, by decide⟩
theorem mv_X0_become : MV M_X0_become := ⟨(inT3 (List.mem_of_getElem? (i := 162) rfl) rfl), (inT3 (List.mem_of_getElem? (i := 163) rfl) rfl)⟩
def M_X0_addAll : MD := (⟨"PlanningHouse$Bytes", "addAll", "(LPlanningHouse$Bytes;II)V"⟩, prog_2_method_7_code, 4, none)
theorem mk_X0_addAll : MK M_X0_addAll 3 := ⟨(inT3 (List.mem_of_getElem? (i := 168) rfl) rfl), (inT1 (List.mem_of_getElem? (i := 2) rfl) rfl), ⟨by decide, by decide, by decide +kernel⟩, by decide, by decide⟩
theorem mv_X0_addAll : MV M_X0_addAll := ⟨(inT3 (List.mem_of_getElem? (i := 166) rfl) rfl), (inT3 (List.mem_of_getElem? (i := 167) rfl) rfl)⟩
def M_X0_makeRoom : MD := (⟨"PlanningHouse$Bytes", "makeRoom", "(I)V"⟩, prog_2_method_11_code, 2, none)
theorem mk_X0_makeRoom : MK M_X0_makeRoom 1 := ⟨(inT2 (List.mem_of_getElem? (i := 85) rfl) rfl), (inT1 (List.mem_of_getElem? (i := 2) rfl) rfl), ⟨by decide, by decide, by decide +kernel⟩, by decide, by decide⟩
theorem mv_X0_makeRoom : MV M_X0_makeRoom := ⟨(inT2 (List.mem_of_getElem? (i := 84) rfl) rfl), (inP (List.mem_of_getElem? (i := 0) rfl) rfl)⟩
def M_J7_copyOf_9075b : MD := (⟨"java/util/Arrays", "copyOf", "([BI)[B"⟩, prog_23_method_121_code, 3, (some (.array .byte)))
theorem mk_J7_copyOf_9075b : MK M_J7_copyOf_9075b 2 := ⟨(inT2 (List.mem_of_getElem? (i := 91) rfl) rfl), (inT1 (List.mem_of_getElem? (i := 11) rfl) rfl), ⟨by decide, by decide, by decide +kernel⟩, by decide, by decide⟩
theorem ms_J7_copyOf_9075b : MS M_J7_copyOf_9075b := (inT2 (List.mem_of_getElem? (i := 90) rfl) rfl)
def M_X5_read : MD := (⟨"PlanningHouse$Reader", "read", "(LPlanningHouse$Problem;)Z"⟩, prog_7_method_2_code, 4, (some .boolean))
theorem mk_X5_read : MK M_X5_read 1 := ⟨(inT3 (List.mem_of_getElem? (i := 173) rfl) rfl), (inT1 (List.mem_of_getElem? (i := 4) rfl) rfl), ⟨by decide, by decide, by decide +kernel⟩, by decide, by decide⟩
theorem mv_X5_read : MV M_X5_read := ⟨(inT3 (List.mem_of_getElem? (i := 171) rfl) rfl), (inT3 (List.mem_of_getElem? (i := 172) rfl) rfl)⟩
def M_X3_clear : MD := (⟨"PlanningHouse$Problem", "clear", "()V"⟩, prog_5_method_2_code, 1, none)
theorem mk_X3_clear : MK M_X3_clear 0 := ⟨(inT3 (List.mem_of_getElem? (i := 177) rfl) rfl), (inT1 (List.mem_of_getElem? (i := 13) rfl) rfl), ⟨by decide, by decide, by decide +kernel⟩, by decide, by decide⟩
theorem mv_X3_clear : MV M_X3_clear := ⟨(inT3 (List.mem_of_getElem? (i := 175) rfl) rfl), (inT3 (List.mem_of_getElem? (i := 176) rfl) rfl)⟩
def M_J7_fill_53178 : MD := (⟨"java/util/Arrays", "fill", "([II)V"⟩, prog_23_method_103_code, 4, none)
theorem mk_J7_fill_53178 : MK M_J7_fill_53178 2 := ⟨(inT3 (List.mem_of_getElem? (i := 180) rfl) rfl), (inT1 (List.mem_of_getElem? (i := 11) rfl) rfl), ⟨by decide, by decide, by decide +kernel⟩, by decide, by decide⟩
theorem ms_J7_fill_53178 : MS M_J7_fill_53178 := (inT3 (List.mem_of_getElem? (i := 179) rfl) rfl)
def M_X7_clear : MD := (⟨"PlanningHouse$Space", "clear", "()V"⟩, prog_9_method_2_code, 1, none)
theorem mk_X7_clear : MK M_X7_clear 0 := ⟨(inT3 (List.mem_of_getElem? (i := 184) rfl) rfl), (inT1 (List.mem_of_getElem? (i := 14) rfl) rfl), ⟨by decide, by decide, by decide +kernel⟩, by decide, by decide⟩
theorem mv_X7_clear : MV M_X7_clear := ⟨(inT3 (List.mem_of_getElem? (i := 182) rfl) rfl), (inT3 (List.mem_of_getElem? (i := 183) rfl) rfl)⟩
def M_X2_clear : MD := (⟨"PlanningHouse$Judge", "clear", "()V"⟩, prog_4_method_2_code, 1, none)
theorem mk_X2_clear : MK M_X2_clear 0 := ⟨(inT3 (List.mem_of_getElem? (i := 188) rfl) rfl), (inT1 (List.mem_of_getElem? (i := 15) rfl) rfl), ⟨by decide, by decide, by decide +kernel⟩, by decide, by decide⟩
theorem mv_X2_clear : MV M_X2_clear := ⟨(inT3 (List.mem_of_getElem? (i := 186) rfl) rfl), (inT3 (List.mem_of_getElem? (i := 187) rfl) rfl)⟩
def M_X10_scan : MD := (⟨"PlanningHouse$Tokens", "scan", "(LPlanningHouse$Bytes;)V"⟩, prog_12_method_2_code, 5, none)
theorem mk_X10_scan : MK M_X10_scan 1 := ⟨(inT3 (List.mem_of_getElem? (i := 192) rfl) rfl), (inT1 (List.mem_of_getElem? (i := 3) rfl) rfl), ⟨by decide, by decide, by decide +kernel⟩, by decide, by decide⟩
theorem mv_X10_scan : MV M_X10_scan := ⟨(inT3 (List.mem_of_getElem? (i := 190) rfl) rfl), (inT3 (List.mem_of_getElem? (i := 191) rfl) rfl)⟩
def M_X10_afterBlanks : MD := (⟨"PlanningHouse$Tokens", "afterBlanks", "(LPlanningHouse$Bytes;I)I"⟩, prog_12_method_10_code, 5, (some .int))
theorem mk_X10_afterBlanks : MK M_X10_afterBlanks 2 := ⟨(inT3 (List.mem_of_getElem? (i := 195) rfl) rfl), (inT1 (List.mem_of_getElem? (i := 3) rfl) rfl), ⟨by decide, by decide, by decide +kernel⟩, by decide, by decide⟩
theorem ms_X10_afterBlanks : MS M_X10_afterBlanks := (inT3 (List.mem_of_getElem? (i := 194) rfl) rfl)
def M_X10_write : MD := (⟨"PlanningHouse$Tokens", "write", "(IJII)I"⟩, prog_12_method_14_code, 6, (some .int))
theorem mk_X10_write : MK M_X10_write 4 := ⟨(inT3 (List.mem_of_getElem? (i := 210) rfl) rfl), (inT1 (List.mem_of_getElem? (i := 3) rfl) rfl), ⟨by decide, by decide, by decide +kernel⟩, by decide, by decide⟩
theorem mv_X10_write : MV M_X10_write := ⟨(inT3 (List.mem_of_getElem? (i := 209) rfl) rfl), (inP (List.mem_of_getElem? (i := 4) rfl) rfl)⟩
def M_J7_copyOf_59c91 : MD := (⟨"java/util/Arrays", "copyOf", "([II)[I"⟩, prog_23_method_123_code, 3, (some (.array .int)))
theorem mk_J7_copyOf_59c91 : MK M_J7_copyOf_59c91 2 := ⟨(inT3 (List.mem_of_getElem? (i := 213) rfl) rfl), (inT1 (List.mem_of_getElem? (i := 11) rfl) rfl), ⟨by decide, by decide, by decide +kernel⟩, by decide, by decide⟩
theorem ms_J7_copyOf_59c91 : MS M_J7_copyOf_59c91 := (inT3 (List.mem_of_getElem? (i := 212) rfl) rfl)
def M_J7_copyOf_c38d5 : MD := (⟨"java/util/Arrays", "copyOf", "([JI)[J"⟩, prog_23_method_124_code, 3, (some (.array .long)))
theorem mk_J7_copyOf_c38d5 : MK M_J7_copyOf_c38d5 2 := ⟨(inT3 (List.mem_of_getElem? (i := 221) rfl) rfl), (inT1 (List.mem_of_getElem? (i := 11) rfl) rfl), ⟨by decide, by decide, by decide +kernel⟩, by decide, by decide⟩
theorem ms_J7_copyOf_c38d5 : MS M_J7_copyOf_c38d5 := (inT3 (List.mem_of_getElem? (i := 220) rfl) rfl)
def M_X10_step : MD := (⟨"PlanningHouse$Tokens", "step", "()V"⟩, prog_12_method_3_code, 1, none)
theorem mk_X10_step : MK M_X10_step 0 := ⟨(inT4 (List.mem_of_getElem? (i := 85) rfl) rfl), (inT1 (List.mem_of_getElem? (i := 3) rfl) rfl), ⟨by decide, by decide, by decide +kernel⟩, by decide, by decide⟩
theorem mv_X10_step : MV M_X10_step := ⟨(inT4 (List.mem_of_getElem? (i := 83) rfl) rfl), (inT4 (List.mem_of_getElem? (i := 84) rfl) rfl)⟩
def M_X10_isLetter : MD := (⟨"PlanningHouse$Tokens", "isLetter", "(I)Z"⟩, prog_12_method_8_code, 1, (some .boolean))
theorem mk_X10_isLetter : MK M_X10_isLetter 1 := ⟨(inT3 (List.mem_of_getElem? (i := 199) rfl) rfl), (inT1 (List.mem_of_getElem? (i := 3) rfl) rfl), ⟨by decide, by decide, by decide +kernel⟩, by decide, by decide⟩
theorem ms_X10_isLetter : MS M_X10_isLetter := (inT3 (List.mem_of_getElem? (i := 198) rfl) rfl)
def M_X10_readName : MD := (⟨"PlanningHouse$Tokens", "readName", "(LPlanningHouse$Bytes;I)I"⟩, prog_12_method_11_code, 7, (some .int))
theorem mk_X10_readName : MK M_X10_readName 2 := ⟨(inT3 (List.mem_of_getElem? (i := 203) rfl) rfl), (inT1 (List.mem_of_getElem? (i := 3) rfl) rfl), ⟨by decide, by decide, by decide +kernel⟩, by decide, by decide⟩
theorem mv_X10_readName : MV M_X10_readName := ⟨(inT3 (List.mem_of_getElem? (i := 202) rfl) rfl), (inP (List.mem_of_getElem? (i := 3) rfl) rfl)⟩
def M_X10_isFigure : MD := (⟨"PlanningHouse$Tokens", "isFigure", "(I)Z"⟩, prog_12_method_9_code, 1, (some .boolean))
theorem mk_X10_isFigure : MK M_X10_isFigure 1 := ⟨(inT3 (List.mem_of_getElem? (i := 206) rfl) rfl), (inT1 (List.mem_of_getElem? (i := 3) rfl) rfl), ⟨by decide, by decide, by decide +kernel⟩, by decide, by decide⟩
theorem ms_X10_isFigure : MS M_X10_isFigure := (inT3 (List.mem_of_getElem? (i := 205) rfl) rfl)
def M_X10_readNumber : MD := (⟨"PlanningHouse$Tokens", "readNumber", "(LPlanningHouse$Bytes;I)I"⟩, prog_12_method_12_code, 6, (some .int))
theorem mk_X10_readNumber : MK M_X10_readNumber 2 := ⟨(inT3 (List.mem_of_getElem? (i := 232) rfl) rfl), (inT1 (List.mem_of_getElem? (i := 3) rfl) rfl), ⟨by decide, by decide, by decide +kernel⟩, by decide, by decide⟩
theorem mv_X10_readNumber : MV M_X10_readNumber := ⟨(inT3 (List.mem_of_getElem? (i := 231) rfl) rfl), (inP (List.mem_of_getElem? (i := 5) rfl) rfl)⟩
def M_X10_readSign : MD := (⟨"PlanningHouse$Tokens", "readSign", "(LPlanningHouse$Bytes;I)I"⟩, prog_12_method_13_code, 5, (some .int))
theorem mk_X10_readSign : MK M_X10_readSign 2 := ⟨(inT3 (List.mem_of_getElem? (i := 238) rfl) rfl), (inT1 (List.mem_of_getElem? (i := 3) rfl) rfl), ⟨by decide, by decide, by decide +kernel⟩, by decide, by decide⟩
theorem mv_X10_readSign : MV M_X10_readSign := ⟨(inT3 (List.mem_of_getElem? (i := 237) rfl) rfl), (inP (List.mem_of_getElem? (i := 6) rfl) rfl)⟩
def M_X5_isWhole : MD := (⟨"PlanningHouse$Reader", "isWhole", "()Z"⟩, prog_7_method_3_code, 3, (some .boolean))
theorem mk_X5_isWhole : MK M_X5_isWhole 0 := ⟨(inT4 (List.mem_of_getElem? (i := 89) rfl) rfl), (inT1 (List.mem_of_getElem? (i := 4) rfl) rfl), ⟨by decide, by decide, by decide +kernel⟩, by decide, by decide⟩
theorem mv_X5_isWhole : MV M_X5_isWhole := ⟨(inT4 (List.mem_of_getElem? (i := 88) rfl) rfl), (inP (List.mem_of_getElem? (i := 7) rfl) rfl)⟩
def M_X10_is : MD := (⟨"PlanningHouse$Tokens", "is", "(I)Z"⟩, prog_12_method_4_code, 2, (some .boolean))
theorem mk_X10_is : MK M_X10_is 1 := ⟨(inT4 (List.mem_of_getElem? (i := 98) rfl) rfl), (inT1 (List.mem_of_getElem? (i := 3) rfl) rfl), ⟨by decide, by decide, by decide +kernel⟩, by decide, by decide⟩
theorem mv_X10_is : MV M_X10_is := ⟨(inT4 (List.mem_of_getElem? (i := 96) rfl) rfl), (inT4 (List.mem_of_getElem? (i := 97) rfl) rfl)⟩
def M_X5_factStatement : MD := (⟨"PlanningHouse$Reader", "factStatement", "()Z"⟩, prog_7_method_4_code, 1, (some .boolean))
theorem mk_X5_factStatement : MK M_X5_factStatement 0 := ⟨(inT4 (List.mem_of_getElem? (i := 102) rfl) rfl), (inT1 (List.mem_of_getElem? (i := 4) rfl) rfl), ⟨by decide, by decide, by decide +kernel⟩, by decide, by decide⟩
theorem mv_X5_factStatement : MV M_X5_factStatement := ⟨(inT4 (List.mem_of_getElem? (i := 101) rfl) rfl), (inP (List.mem_of_getElem? (i := 8) rfl) rfl)⟩
def M_X10_refuse : MD := (⟨"PlanningHouse$Tokens", "refuse", "()Z"⟩, prog_12_method_6_code, 1, (some .boolean))
theorem mk_X10_refuse : MK M_X10_refuse 0 := ⟨(inT4 (List.mem_of_getElem? (i := 111) rfl) rfl), (inT1 (List.mem_of_getElem? (i := 3) rfl) rfl), ⟨by decide, by decide, by decide +kernel⟩, by decide, by decide⟩
theorem mv_X10_refuse : MV M_X10_refuse := ⟨(inT4 (List.mem_of_getElem? (i := 109) rfl) rfl), (inT4 (List.mem_of_getElem? (i := 110) rfl) rfl)⟩
def M_X3_lookUp : MD := (⟨"PlanningHouse$Problem", "lookUp", "(J)I"⟩, prog_5_method_4_code, 5, (some .int))
theorem mk_X3_lookUp : MK M_X3_lookUp 1 := ⟨(inT4 (List.mem_of_getElem? (i := 115) rfl) rfl), (inT1 (List.mem_of_getElem? (i := 13) rfl) rfl), ⟨by decide, by decide, by decide +kernel⟩, by decide, by decide⟩
theorem mv_X3_lookUp : MV M_X3_lookUp := ⟨(inT4 (List.mem_of_getElem? (i := 113) rfl) rfl), (inT4 (List.mem_of_getElem? (i := 114) rfl) rfl)⟩
def M_X5_varStatement : MD := (⟨"PlanningHouse$Reader", "varStatement", "()Z"⟩, prog_7_method_5_code, 2, (some .boolean))
theorem mk_X5_varStatement : MK M_X5_varStatement 0 := ⟨(inT4 (List.mem_of_getElem? (i := 132) rfl) rfl), (inT1 (List.mem_of_getElem? (i := 4) rfl) rfl), ⟨by decide, by decide, by decide +kernel⟩, by decide, by decide⟩
theorem mv_X5_varStatement : MV M_X5_varStatement := ⟨(inT4 (List.mem_of_getElem? (i := 131) rfl) rfl), (inP (List.mem_of_getElem? (i := 11) rfl) rfl)⟩
def M_X5_ruleStatement : MD := (⟨"PlanningHouse$Reader", "ruleStatement", "()Z"⟩, prog_7_method_6_code, 4, (some .boolean))
theorem mk_X5_ruleStatement : MK M_X5_ruleStatement 0 := ⟨(inT4 (List.mem_of_getElem? (i := 148) rfl) rfl), (inT1 (List.mem_of_getElem? (i := 4) rfl) rfl), ⟨by decide, by decide, by decide +kernel⟩, by decide, by decide⟩
theorem mv_X5_ruleStatement : MV M_X5_ruleStatement := ⟨(inT4 (List.mem_of_getElem? (i := 147) rfl) rfl), (inP (List.mem_of_getElem? (i := 14) rfl) rfl)⟩
def M_J6_bitCount_0f7a4 : MD := (⟨"java/lang/Integer", "bitCount", "(I)I"⟩, prog_17_method_49_code, 1, (some .int))
theorem mk_J6_bitCount_0f7a4 : MK M_J6_bitCount_0f7a4 1 := ⟨(inT4 (List.mem_of_getElem? (i := 151) rfl) rfl), (inT1 (List.mem_of_getElem? (i := 22) rfl) rfl), ⟨by decide, by decide, by decide +kernel⟩, by decide, by decide⟩
theorem ms_J6_bitCount_0f7a4 : MS M_J6_bitCount_0f7a4 := (inT4 (List.mem_of_getElem? (i := 150) rfl) rfl)
def M_X5_aimStatement : MD := (⟨"PlanningHouse$Reader", "aimStatement", "()Z"⟩, prog_7_method_7_code, 3, (some .boolean))
theorem mk_X5_aimStatement : MK M_X5_aimStatement 0 := ⟨(inT5 (List.mem_of_getElem? (i := 39) rfl) rfl), (inT1 (List.mem_of_getElem? (i := 4) rfl) rfl), ⟨by decide, by decide, by decide +kernel⟩, by decide, by decide⟩
theorem mv_X5_aimStatement : MV M_X5_aimStatement := ⟨(inT5 (List.mem_of_getElem? (i := 38) rfl) rfl), (inP (List.mem_of_getElem? (i := 32) rfl) rfl)⟩
def M_X8_restore : MD := (⟨"PlanningHouse$Store", "restore", "(LPlanningHouse$Bytes;ILPlanningHouse$Problem;)Z"⟩, prog_10_method_8_code, 8, (some .boolean))
theorem mk_X8_restore : MK M_X8_restore 3 := ⟨(inT8 (List.mem_of_getElem? (i := 46) rfl) rfl), (inT1 (List.mem_of_getElem? (i := 8) rfl) rfl), ⟨by decide, by decide, by decide +kernel⟩, by decide, by decide⟩
theorem mv_X8_restore : MV M_X8_restore := ⟨(inT8 (List.mem_of_getElem? (i := 44) rfl) rfl), (inT8 (List.mem_of_getElem? (i := 45) rfl) rfl)⟩
def M_X7_placeOfValue : MD := (⟨"PlanningHouse$Space", "placeOfValue", "(II)I"⟩, prog_9_method_7_code, 4, (some .int))
theorem mk_X7_placeOfValue : MK M_X7_placeOfValue 2 := ⟨(inT5 (List.mem_of_getElem? (i := 228) rfl) rfl), (inT1 (List.mem_of_getElem? (i := 14) rfl) rfl), ⟨by decide, by decide, by decide +kernel⟩, by decide, by decide⟩
theorem mv_X7_placeOfValue : MV M_X7_placeOfValue := ⟨(inT5 (List.mem_of_getElem? (i := 226) rfl) rfl), (inT5 (List.mem_of_getElem? (i := 227) rfl) rfl)⟩
def M_X7_moved : MD := (⟨"PlanningHouse$Space", "moved", "(III)I"⟩, prog_9_method_8_code, 4, (some .int))
theorem mk_X7_moved : MK M_X7_moved 3 := ⟨(inT5 (List.mem_of_getElem? (i := 232) rfl) rfl), (inT1 (List.mem_of_getElem? (i := 14) rfl) rfl), ⟨by decide, by decide, by decide +kernel⟩, by decide, by decide⟩
theorem mv_X7_moved : MV M_X7_moved := ⟨(inT5 (List.mem_of_getElem? (i := 230) rfl) rfl), (inT5 (List.mem_of_getElem? (i := 231) rfl) rfl)⟩
def M_X0_keep : MD := (⟨"PlanningHouse$Bytes", "keep", "(I)V"⟩, prog_2_method_4_code, 2, none)
theorem mk_X0_keep : MK M_X0_keep 1 := ⟨(inT2 (List.mem_of_getElem? (i := 112) rfl) rfl), (inT1 (List.mem_of_getElem? (i := 2) rfl) rfl), ⟨by decide, by decide, by decide +kernel⟩, by decide, by decide⟩
theorem mv_X0_keep : MV M_X0_keep := ⟨(inT2 (List.mem_of_getElem? (i := 110) rfl) rfl), (inT2 (List.mem_of_getElem? (i := 111) rfl) rfl)⟩
def M_X12_bring : MD := (⟨"PlanningHouseModel", "bring", "()I"⟩, prog_14_method_183_code, 8, (some .int))
theorem mk_X12_bring : MK M_X12_bring 0 := ⟨(inT12 (List.mem_of_getElem? (i := 187) rfl) rfl), (inT1 (List.mem_of_getElem? (i := 9) rfl) rfl), ⟨by decide, by decide, by decide +kernel⟩, by decide, by decide⟩
theorem mv_X12_bring : MV M_X12_bring := ⟨(inT12 (List.mem_of_getElem? (i := 185) rfl) rfl), (inT12 (List.mem_of_getElem? (i := 186) rfl) rfl)⟩
def M_X12_numberAt : MD := (⟨"PlanningHouseModel", "numberAt", "(II)J"⟩, prog_14_method_175_code, 6, (some .long))
theorem mk_X12_numberAt : MK M_X12_numberAt 2 := ⟨(inT12 (List.mem_of_getElem? (i := 163) rfl) rfl), (inT1 (List.mem_of_getElem? (i := 9) rfl) rfl), ⟨by decide, by decide, by decide +kernel⟩, by decide, by decide⟩
theorem mv_X12_numberAt : MV M_X12_numberAt := ⟨(inT12 (List.mem_of_getElem? (i := 162) rfl) rfl), (inP (List.mem_of_getElem? (i := 181) rfl) rfl)⟩
def M_X12_mixed : MD := (⟨"PlanningHouseModel", "mixed", "(JI)J"⟩, prog_14_method_171_code, 5, (some .long))
theorem mk_X12_mixed : MK M_X12_mixed 2 := ⟨(inT12 (List.mem_of_getElem? (i := 146) rfl) rfl), (inT1 (List.mem_of_getElem? (i := 9) rfl) rfl), ⟨by decide, by decide, by decide +kernel⟩, by decide, by decide⟩
theorem ms_X12_mixed : MS M_X12_mixed := (inT12 (List.mem_of_getElem? (i := 145) rfl) rfl)
def M_X12_readRow : MD := (⟨"PlanningHouseModel", "readRow", "(III)I"⟩, prog_14_method_176_code, 10, (some .int))
theorem mk_X12_readRow : MK M_X12_readRow 3 := ⟨(inT12 (List.mem_of_getElem? (i := 155) rfl) rfl), (inT1 (List.mem_of_getElem? (i := 9) rfl) rfl), ⟨by decide, by decide, by decide +kernel⟩, by decide, by decide⟩
theorem mv_X12_readRow : MV M_X12_readRow := ⟨(inT12 (List.mem_of_getElem? (i := 154) rfl) rfl), (inP (List.mem_of_getElem? (i := 179) rfl) rfl)⟩
def M_X12_readProblem : MD := (⟨"PlanningHouseModel", "readProblem", "(I)Z"⟩, prog_14_method_48_code, 4, (some .boolean))
theorem mk_X12_readProblem : MK M_X12_readProblem 1 := ⟨(inT9 (List.mem_of_getElem? (i := 185) rfl) rfl), (inT1 (List.mem_of_getElem? (i := 9) rfl) rfl), ⟨by decide, by decide, by decide +kernel⟩, by decide, by decide⟩
theorem mv_X12_readProblem : MV M_X12_readProblem := ⟨(inT9 (List.mem_of_getElem? (i := 184) rfl) rfl), (inP (List.mem_of_getElem? (i := 74) rfl) rfl)⟩
def M_X12_next : MD := (⟨"PlanningHouseModel", "next", "()V"⟩, prog_14_method_13_code, 3, none)
theorem mk_X12_next : MK M_X12_next 0 := ⟨(inT9 (List.mem_of_getElem? (i := 189) rfl) rfl), (inT1 (List.mem_of_getElem? (i := 9) rfl) rfl), ⟨by decide, by decide, by decide +kernel⟩, by decide, by decide⟩
theorem mv_X12_next : MV M_X12_next := ⟨(inT9 (List.mem_of_getElem? (i := 188) rfl) rfl), (inP (List.mem_of_getElem? (i := 75) rfl) rfl)⟩
def M_X12_passBlanks : MD := (⟨"PlanningHouseModel", "passBlanks", "()V"⟩, prog_14_method_9_code, 3, none)
theorem mk_X12_passBlanks : MK M_X12_passBlanks 0 := ⟨(inT9 (List.mem_of_getElem? (i := 193) rfl) rfl), (inT1 (List.mem_of_getElem? (i := 9) rfl) rfl), ⟨by decide, by decide, by decide +kernel⟩, by decide, by decide⟩
theorem mv_X12_passBlanks : MV M_X12_passBlanks := ⟨(inT9 (List.mem_of_getElem? (i := 192) rfl) rfl), (inP (List.mem_of_getElem? (i := 76) rfl) rfl)⟩
def M_X12_look : MD := (⟨"PlanningHouseModel", "look", "(I)I"⟩, prog_14_method_6_code, 2, (some .int))
theorem mk_X12_look : MK M_X12_look 1 := ⟨(inT9 (List.mem_of_getElem? (i := 197) rfl) rfl), (inT1 (List.mem_of_getElem? (i := 9) rfl) rfl), ⟨by decide, by decide, by decide +kernel⟩, by decide, by decide⟩
theorem mv_X12_look : MV M_X12_look := ⟨(inT9 (List.mem_of_getElem? (i := 196) rfl) rfl), (inP (List.mem_of_getElem? (i := 77) rfl) rfl)⟩
def M_X12_isLetter : MD := (⟨"PlanningHouseModel", "isLetter", "(I)Z"⟩, prog_14_method_7_code, 1, (some .boolean))
theorem mk_X12_isLetter : MK M_X12_isLetter 1 := ⟨(inT9 (List.mem_of_getElem? (i := 200) rfl) rfl), (inT1 (List.mem_of_getElem? (i := 9) rfl) rfl), ⟨by decide, by decide, by decide +kernel⟩, by decide, by decide⟩
theorem ms_X12_isLetter : MS M_X12_isLetter := (inT9 (List.mem_of_getElem? (i := 199) rfl) rfl)
def M_X12_isFigure : MD := (⟨"PlanningHouseModel", "isFigure", "(I)Z"⟩, prog_14_method_8_code, 1, (some .boolean))
theorem mk_X12_isFigure : MK M_X12_isFigure 1 := ⟨(inT9 (List.mem_of_getElem? (i := 203) rfl) rfl), (inT1 (List.mem_of_getElem? (i := 9) rfl) rfl), ⟨by decide, by decide, by decide +kernel⟩, by decide, by decide⟩
theorem ms_X12_isFigure : MS M_X12_isFigure := (inT9 (List.mem_of_getElem? (i := 202) rfl) rfl)
def M_X12_statement : MD := (⟨"PlanningHouseModel", "statement", "()V"⟩, prog_14_method_26_code, 1, none)
theorem mk_X12_statement : MK M_X12_statement 0 := ⟨(inT9 (List.mem_of_getElem? (i := 237) rfl) rfl), (inT1 (List.mem_of_getElem? (i := 9) rfl) rfl), ⟨by decide, by decide, by decide +kernel⟩, by decide, by decide⟩
theorem mv_X12_statement : MV M_X12_statement := ⟨(inT9 (List.mem_of_getElem? (i := 236) rfl) rfl), (inP (List.mem_of_getElem? (i := 80) rfl) rfl)⟩
def M_X12_keep : MD := (⟨"PlanningHouseModel", "keep", "(I)V"⟩, prog_14_method_16_code, 3, none)
theorem mk_X12_keep : MK M_X12_keep 1 := ⟨(inT10 (List.mem_of_getElem? (i := 1) rfl) rfl), (inT1 (List.mem_of_getElem? (i := 9) rfl) rfl), ⟨by decide, by decide, by decide +kernel⟩, by decide, by decide⟩
theorem mv_X12_keep : MV M_X12_keep := ⟨(inT10 (List.mem_of_getElem? (i := 0) rfl) rfl), (inP (List.mem_of_getElem? (i := 81) rfl) rfl)⟩
def M_X12_aimStatement : MD := (⟨"PlanningHouseModel", "aimStatement", "()V"⟩, prog_14_method_32_code, 4, none)
theorem mk_X12_aimStatement : MK M_X12_aimStatement 0 := ⟨(inT10 (List.mem_of_getElem? (i := 129) rfl) rfl), (inT1 (List.mem_of_getElem? (i := 9) rfl) rfl), ⟨by decide, by decide, by decide +kernel⟩, by decide, by decide⟩
theorem mv_X12_aimStatement : MV M_X12_aimStatement := ⟨(inT10 (List.mem_of_getElem? (i := 128) rfl) rfl), (inP (List.mem_of_getElem? (i := 112) rfl) rfl)⟩
def M_X12_failHere : MD := (⟨"PlanningHouseModel", "failHere", "()V"⟩, prog_14_method_15_code, 1, none)
theorem mk_X12_failHere : MK M_X12_failHere 0 := ⟨(inT10 (List.mem_of_getElem? (i := 13) rfl) rfl), (inT1 (List.mem_of_getElem? (i := 9) rfl) rfl), ⟨by decide, by decide, by decide +kernel⟩, by decide, by decide⟩
theorem mv_X12_failHere : MV M_X12_failHere := ⟨(inT10 (List.mem_of_getElem? (i := 12) rfl) rfl), (inP (List.mem_of_getElem? (i := 84) rfl) rfl)⟩
def M_X12_fail : MD := (⟨"PlanningHouseModel", "fail", "(II)V"⟩, prog_14_method_14_code, 3, none)
theorem mk_X12_fail : MK M_X12_fail 2 := ⟨(inT10 (List.mem_of_getElem? (i := 17) rfl) rfl), (inT1 (List.mem_of_getElem? (i := 9) rfl) rfl), ⟨by decide, by decide, by decide +kernel⟩, by decide, by decide⟩
theorem mv_X12_fail : MV M_X12_fail := ⟨(inT10 (List.mem_of_getElem? (i := 16) rfl) rfl), (inP (List.mem_of_getElem? (i := 85) rfl) rfl)⟩
def M_X12_meaning : MD := (⟨"PlanningHouseModel", "meaning", "(I)I"⟩, prog_14_method_20_code, 4, (some .int))
theorem mk_X12_meaning : MK M_X12_meaning 1 := ⟨(inT10 (List.mem_of_getElem? (i := 21) rfl) rfl), (inT1 (List.mem_of_getElem? (i := 9) rfl) rfl), ⟨by decide, by decide, by decide +kernel⟩, by decide, by decide⟩
theorem mv_X12_meaning : MV M_X12_meaning := ⟨(inT10 (List.mem_of_getElem? (i := 20) rfl) rfl), (inP (List.mem_of_getElem? (i := 86) rfl) rfl)⟩
def M_X12_ruleStatement : MD := (⟨"PlanningHouseModel", "ruleStatement", "()V"⟩, prog_14_method_31_code, 5, none)
theorem mk_X12_ruleStatement : MK M_X12_ruleStatement 0 := ⟨(inT10 (List.mem_of_getElem? (i := 62) rfl) rfl), (inT1 (List.mem_of_getElem? (i := 9) rfl) rfl), ⟨by decide, by decide, by decide +kernel⟩, by decide, by decide⟩
theorem mv_X12_ruleStatement : MV M_X12_ruleStatement := ⟨(inT10 (List.mem_of_getElem? (i := 61) rfl) rfl), (inP (List.mem_of_getElem? (i := 96) rfl) rfl)⟩
def M_X12_varStatement : MD := (⟨"PlanningHouseModel", "varStatement", "()V"⟩, prog_14_method_28_code, 5, none)
theorem mk_X12_varStatement : MK M_X12_varStatement 0 := ⟨(inT10 (List.mem_of_getElem? (i := 49) rfl) rfl), (inT1 (List.mem_of_getElem? (i := 9) rfl) rfl), ⟨by decide, by decide, by decide +kernel⟩, by decide, by decide⟩
theorem mv_X12_varStatement : MV M_X12_varStatement := ⟨(inT10 (List.mem_of_getElem? (i := 48) rfl) rfl), (inP (List.mem_of_getElem? (i := 93) rfl) rfl)⟩
def M_X12_factStatement : MD := (⟨"PlanningHouseModel", "factStatement", "()V"⟩, prog_14_method_27_code, 2, none)
theorem mk_X12_factStatement : MK M_X12_factStatement 0 := ⟨(inT10 (List.mem_of_getElem? (i := 5) rfl) rfl), (inT1 (List.mem_of_getElem? (i := 9) rfl) rfl), ⟨by decide, by decide, by decide +kernel⟩, by decide, by decide⟩
theorem mv_X12_factStatement : MV M_X12_factStatement := ⟨(inT10 (List.mem_of_getElem? (i := 4) rfl) rfl), (inP (List.mem_of_getElem? (i := 82) rfl) rfl)⟩
def M_X12_needOf : MD := (⟨"PlanningHouseModel", "needOf", "(I)I"⟩, prog_14_method_172_code, 2, (some .int))
theorem mk_X12_needOf : MK M_X12_needOf 1 := ⟨(inT12 (List.mem_of_getElem? (i := 138) rfl) rfl), (inT1 (List.mem_of_getElem? (i := 9) rfl) rfl), ⟨by decide, by decide, by decide +kernel⟩, by decide, by decide⟩
theorem mv_X12_needOf : MV M_X12_needOf := ⟨(inT12 (List.mem_of_getElem? (i := 137) rfl) rfl), (inP (List.mem_of_getElem? (i := 177) rfl) rfl)⟩
def M_X12_vars : MD := (⟨"PlanningHouseModel", "vars", "(I)I"⟩, prog_14_method_54_code, 2, (some .int))
theorem mk_X12_vars : MK M_X12_vars 1 := ⟨(inT10 (List.mem_of_getElem? (i := 150) rfl) rfl), (inT1 (List.mem_of_getElem? (i := 9) rfl) rfl), ⟨by decide, by decide, by decide +kernel⟩, by decide, by decide⟩
theorem mv_X12_vars : MV M_X12_vars := ⟨(inT10 (List.mem_of_getElem? (i := 149) rfl) rfl), (inP (List.mem_of_getElem? (i := 114) rfl) rfl)⟩
def M_X12_placeOf : MD := (⟨"PlanningHouseModel", "placeOf", "(III)I"⟩, prog_14_method_102_code, 5, (some .int))
theorem mk_X12_placeOf : MK M_X12_placeOf 3 := ⟨(inT11 (List.mem_of_getElem? (i := 68) rfl) rfl), (inT1 (List.mem_of_getElem? (i := 9) rfl) rfl), ⟨by decide, by decide, by decide +kernel⟩, by decide, by decide⟩
theorem mv_X12_placeOf : MV M_X12_placeOf := ⟨(inT11 (List.mem_of_getElem? (i := 67) rfl) rfl), (inP (List.mem_of_getElem? (i := 143) rfl) rfl)⟩
def M_X11_take : MD := (⟨"PlanningHouse", "take", "()I"⟩, prog_1_method_65_code, 1, (some .int))
theorem mk_X11_take : MK M_X11_take 0 := ⟨(inT8 (List.mem_of_getElem? (i := 73) rfl) rfl), (inT1 (List.mem_of_getElem? (i := 1) rfl) rfl), ⟨by decide, by decide, by decide +kernel⟩, by decide, by decide⟩
theorem mv_X11_take : MV M_X11_take := ⟨(inT8 (List.mem_of_getElem? (i := 71) rfl) rfl), (inT8 (List.mem_of_getElem? (i := 72) rfl) rfl)⟩
def M_X8_export : MD := (⟨"PlanningHouse$Store", "export", "(LPlanningHouse$Bytes;)V"⟩, prog_10_method_10_code, 2, none)
theorem mk_X8_export : MK M_X8_export 1 := ⟨(inT8 (List.mem_of_getElem? (i := 77) rfl) rfl), (inT1 (List.mem_of_getElem? (i := 8) rfl) rfl), ⟨by decide, by decide, by decide +kernel⟩, by decide, by decide⟩
theorem mv_X8_export : MV M_X8_export := ⟨(inT8 (List.mem_of_getElem? (i := 75) rfl) rfl), (inT8 (List.mem_of_getElem? (i := 76) rfl) rfl)⟩
def M_X0_addNumber : MD := (⟨"PlanningHouse$Bytes", "addNumber", "(JI)V"⟩, prog_2_method_6_code, 5, none)
theorem mk_X0_addNumber : MK M_X0_addNumber 2 := ⟨(inT2 (List.mem_of_getElem? (i := 77) rfl) rfl), (inT1 (List.mem_of_getElem? (i := 2) rfl) rfl), ⟨by decide, by decide, by decide +kernel⟩, by decide, by decide⟩
theorem mv_X0_addNumber : MV M_X0_addNumber := ⟨(inT2 (List.mem_of_getElem? (i := 75) rfl) rfl), (inT2 (List.mem_of_getElem? (i := 76) rfl) rfl)⟩
def M_X0_add : MD := (⟨"PlanningHouse$Bytes", "add", "(I)V"⟩, prog_2_method_5_code, 2, none)
theorem mk_X0_add : MK M_X0_add 1 := ⟨(inT2 (List.mem_of_getElem? (i := 81) rfl) rfl), (inT1 (List.mem_of_getElem? (i := 2) rfl) rfl), ⟨by decide, by decide, by decide +kernel⟩, by decide, by decide⟩
theorem mv_X0_add : MV M_X0_add := ⟨(inT2 (List.mem_of_getElem? (i := 79) rfl) rfl), (inT2 (List.mem_of_getElem? (i := 80) rfl) rfl)⟩
def M_X12_take : MD := (⟨"PlanningHouseModel", "take", "()I"⟩, prog_14_method_182_code, 4, (some .int))
theorem mk_X12_take : MK M_X12_take 0 := ⟨(inT12 (List.mem_of_getElem? (i := 183) rfl) rfl), (inT1 (List.mem_of_getElem? (i := 9) rfl) rfl), ⟨by decide, by decide, by decide +kernel⟩, by decide, by decide⟩
theorem mv_X12_take : MV M_X12_take := ⟨(inT12 (List.mem_of_getElem? (i := 181) rfl) rfl), (inT12 (List.mem_of_getElem? (i := 182) rfl) rfl)⟩
def M_X11_crash : MD := (⟨"PlanningHouse", "crash", "(I)I"⟩, prog_1_method_64_code, 2, (some .int))
theorem mk_X11_crash : MK M_X11_crash 1 := ⟨(inT8 (List.mem_of_getElem? (i := 64) rfl) rfl), (inT1 (List.mem_of_getElem? (i := 1) rfl) rfl), ⟨by decide, by decide, by decide +kernel⟩, by decide, by decide⟩
theorem mv_X11_crash : MV M_X11_crash := ⟨(inT8 (List.mem_of_getElem? (i := 62) rfl) rfl), (inT8 (List.mem_of_getElem? (i := 63) rfl) rfl)⟩
def M_X8_lose : MD := (⟨"PlanningHouse$Store", "lose", "(I)I"⟩, prog_10_method_9_code, 3, (some .int))
theorem mk_X8_lose : MK M_X8_lose 1 := ⟨(inT8 (List.mem_of_getElem? (i := 68) rfl) rfl), (inT1 (List.mem_of_getElem? (i := 8) rfl) rfl), ⟨by decide, by decide, by decide +kernel⟩, by decide, by decide⟩
theorem mv_X8_lose : MV M_X8_lose := ⟨(inT8 (List.mem_of_getElem? (i := 66) rfl) rfl), (inT8 (List.mem_of_getElem? (i := 67) rfl) rfl)⟩
def M_X12_crash : MD := (⟨"PlanningHouseModel", "crash", "(I)I"⟩, prog_14_method_181_code, 4, (some .int))
theorem mk_X12_crash : MK M_X12_crash 1 := ⟨(inT12 (List.mem_of_getElem? (i := 179) rfl) rfl), (inT1 (List.mem_of_getElem? (i := 9) rfl) rfl), ⟨by decide, by decide, by decide +kernel⟩, by decide, by decide⟩
theorem mv_X12_crash : MV M_X12_crash := ⟨(inT12 (List.mem_of_getElem? (i := 177) rfl) rfl), (inT12 (List.mem_of_getElem? (i := 178) rfl) rfl)⟩
def M_X11_byteAt : MD := (⟨"PlanningHouse", "byteAt", "(I)I"⟩, prog_1_method_63_code, 2, (some .int))
theorem mk_X11_byteAt : MK M_X11_byteAt 1 := ⟨(inT8 (List.mem_of_getElem? (i := 60) rfl) rfl), (inT1 (List.mem_of_getElem? (i := 1) rfl) rfl), ⟨by decide, by decide, by decide +kernel⟩, by decide, by decide⟩
theorem mv_X11_byteAt : MV M_X11_byteAt := ⟨(inT8 (List.mem_of_getElem? (i := 58) rfl) rfl), (inT8 (List.mem_of_getElem? (i := 59) rfl) rfl)⟩
def M_X12_byteAt : MD := (⟨"PlanningHouseModel", "byteAt", "(I)I"⟩, prog_14_method_180_code, 2, (some .int))
theorem mk_X12_byteAt : MK M_X12_byteAt 1 := ⟨(inT12 (List.mem_of_getElem? (i := 175) rfl) rfl), (inT1 (List.mem_of_getElem? (i := 9) rfl) rfl), ⟨by decide, by decide, by decide +kernel⟩, by decide, by decide⟩
theorem mv_X12_byteAt : MV M_X12_byteAt := ⟨(inT12 (List.mem_of_getElem? (i := 173) rfl) rfl), (inT12 (List.mem_of_getElem? (i := 174) rfl) rfl)⟩
def M_X11_size : MD := (⟨"PlanningHouse", "size", "()I"⟩, prog_1_method_62_code, 1, (some .int))
theorem mk_X11_size : MK M_X11_size 0 := ⟨(inT8 (List.mem_of_getElem? (i := 56) rfl) rfl), (inT1 (List.mem_of_getElem? (i := 1) rfl) rfl), ⟨by decide, by decide, by decide +kernel⟩, by decide, by decide⟩
theorem mv_X11_size : MV M_X11_size := ⟨(inT8 (List.mem_of_getElem? (i := 54) rfl) rfl), (inT8 (List.mem_of_getElem? (i := 55) rfl) rfl)⟩
def M_X12_size : MD := (⟨"PlanningHouseModel", "size", "()I"⟩, prog_14_method_179_code, 1, (some .int))
theorem mk_X12_size : MK M_X12_size 0 := ⟨(inT12 (List.mem_of_getElem? (i := 171) rfl) rfl), (inT1 (List.mem_of_getElem? (i := 9) rfl) rfl), ⟨by decide, by decide, by decide +kernel⟩, by decide, by decide⟩
theorem mv_X12_size : MV M_X12_size := ⟨(inT12 (List.mem_of_getElem? (i := 169) rfl) rfl), (inT12 (List.mem_of_getElem? (i := 170) rfl) rfl)⟩
def M_X11_rows : MD := (⟨"PlanningHouse", "rows", "()I"⟩, prog_1_method_61_code, 1, (some .int))
theorem mk_X11_rows : MK M_X11_rows 0 := ⟨(inT8 (List.mem_of_getElem? (i := 52) rfl) rfl), (inT1 (List.mem_of_getElem? (i := 1) rfl) rfl), ⟨by decide, by decide, by decide +kernel⟩, by decide, by decide⟩
theorem mv_X11_rows : MV M_X11_rows := ⟨(inT8 (List.mem_of_getElem? (i := 50) rfl) rfl), (inT8 (List.mem_of_getElem? (i := 51) rfl) rfl)⟩
def M_X12_rows : MD := (⟨"PlanningHouseModel", "rows", "()I"⟩, prog_14_method_178_code, 1, (some .int))
theorem mk_X12_rows : MK M_X12_rows 0 := ⟨(inT12 (List.mem_of_getElem? (i := 167) rfl) rfl), (inT1 (List.mem_of_getElem? (i := 9) rfl) rfl), ⟨by decide, by decide, by decide +kernel⟩, by decide, by decide⟩
theorem mv_X12_rows : MV M_X12_rows := ⟨(inT12 (List.mem_of_getElem? (i := 165) rfl) rfl), (inT12 (List.mem_of_getElem? (i := 166) rfl) rfl)⟩
def M_X11_load : MD := (⟨"PlanningHouse", "load", "(I)I"⟩, prog_1_method_60_code, 6, (some .int))
theorem mk_X11_load : MK M_X11_load 1 := ⟨(inT8 (List.mem_of_getElem? (i := 29) rfl) rfl), (inT1 (List.mem_of_getElem? (i := 1) rfl) rfl), ⟨by decide, by decide, by decide +kernel⟩, by decide, by decide⟩
theorem mv_X11_load : MV M_X11_load := ⟨(inT8 (List.mem_of_getElem? (i := 27) rfl) rfl), (inT8 (List.mem_of_getElem? (i := 28) rfl) rfl)⟩
def M_X8_start : MD := (⟨"PlanningHouse$Store", "start", "(I)I"⟩, prog_10_method_2_code, 2, (some .int))
theorem mk_X8_start : MK M_X8_start 1 := ⟨(inT8 (List.mem_of_getElem? (i := 33) rfl) rfl), (inT1 (List.mem_of_getElem? (i := 8) rfl) rfl), ⟨by decide, by decide, by decide +kernel⟩, by decide, by decide⟩
theorem mv_X8_start : MV M_X8_start := ⟨(inT8 (List.mem_of_getElem? (i := 31) rfl) rfl), (inT8 (List.mem_of_getElem? (i := 32) rfl) rfl)⟩
def M_X11_freeNumber : MD := (⟨"PlanningHouse", "freeNumber", "()I"⟩, prog_1_method_70_code, 3, (some .int))
theorem mk_X11_freeNumber : MK M_X11_freeNumber 0 := ⟨(inT2 (List.mem_of_getElem? (i := 136) rfl) rfl), (inT1 (List.mem_of_getElem? (i := 1) rfl) rfl), ⟨by decide, by decide, by decide +kernel⟩, by decide, by decide⟩
theorem mv_X11_freeNumber : MV M_X11_freeNumber := ⟨(inT2 (List.mem_of_getElem? (i := 135) rfl) rfl), (inP (List.mem_of_getElem? (i := 1) rfl) rfl)⟩
def M_X11_roomFor : MD := (⟨"PlanningHouse", "roomFor", "(I)LPlanningHouse$Problem;"⟩, prog_1_method_71_code, 4, (some (.object "PlanningHouse$Problem")))
theorem mk_X11_roomFor : MK M_X11_roomFor 1 := ⟨(inT2 (List.mem_of_getElem? (i := 140) rfl) rfl), (inT1 (List.mem_of_getElem? (i := 1) rfl) rfl), ⟨by decide, by decide, by decide +kernel⟩, by decide, by decide⟩
theorem mv_X11_roomFor : MV M_X11_roomFor := ⟨(inT2 (List.mem_of_getElem? (i := 139) rfl) rfl), (inP (List.mem_of_getElem? (i := 2) rfl) rfl)⟩
def M_X12_load : MD := (⟨"PlanningHouseModel", "load", "(I)I"⟩, prog_14_method_177_code, 4, (some .int))
theorem mk_X12_load : MK M_X12_load 1 := ⟨(inT12 (List.mem_of_getElem? (i := 151) rfl) rfl), (inT1 (List.mem_of_getElem? (i := 9) rfl) rfl), ⟨by decide, by decide, by decide +kernel⟩, by decide, by decide⟩
theorem mv_X12_load : MV M_X12_load := ⟨(inT12 (List.mem_of_getElem? (i := 149) rfl) rfl), (inT12 (List.mem_of_getElem? (i := 150) rfl) rfl)⟩
def M_X12_freeSlot : MD := (⟨"PlanningHouseModel", "freeSlot", "()I"⟩, prog_14_method_49_code, 2, (some .int))
theorem mk_X12_freeSlot : MK M_X12_freeSlot 0 := ⟨(inT9 (List.mem_of_getElem? (i := 181) rfl) rfl), (inT1 (List.mem_of_getElem? (i := 9) rfl) rfl), ⟨by decide, by decide, by decide +kernel⟩, by decide, by decide⟩
theorem mv_X12_freeSlot : MV M_X12_freeSlot := ⟨(inT9 (List.mem_of_getElem? (i := 180) rfl) rfl), (inP (List.mem_of_getElem? (i := 73) rfl) rfl)⟩
def M_X11_save : MD := (⟨"PlanningHouse", "save", "(I)I"⟩, prog_1_method_59_code, 3, (some .int))
theorem mk_X11_save : MK M_X11_save 1 := ⟨(inT8 (List.mem_of_getElem? (i := 3) rfl) rfl), (inT1 (List.mem_of_getElem? (i := 1) rfl) rfl), ⟨by decide, by decide, by decide +kernel⟩, by decide, by decide⟩
theorem mv_X11_save : MV M_X11_save := ⟨(inT8 (List.mem_of_getElem? (i := 1) rfl) rfl), (inT8 (List.mem_of_getElem? (i := 2) rfl) rfl)⟩
def M_X11_known : MD := (⟨"PlanningHouse", "known", "(I)LPlanningHouse$Problem;"⟩, prog_1_method_68_code, 3, (some (.object "PlanningHouse$Problem")))
theorem mk_X11_known : MK M_X11_known 1 := ⟨(inT5 (List.mem_of_getElem? (i := 51) rfl) rfl), (inT1 (List.mem_of_getElem? (i := 1) rfl) rfl), ⟨by decide, by decide, by decide +kernel⟩, by decide, by decide⟩
theorem mv_X11_known : MV M_X11_known := ⟨(inT5 (List.mem_of_getElem? (i := 50) rfl) rfl), (inP (List.mem_of_getElem? (i := 33) rfl) rfl)⟩
def M_X8_add : MD := (⟨"PlanningHouse$Store", "add", "(LPlanningHouse$Problem;)I"⟩, prog_10_method_4_code, 5, (some .int))
theorem mk_X8_add : MK M_X8_add 1 := ⟨(inT8 (List.mem_of_getElem? (i := 7) rfl) rfl), (inT1 (List.mem_of_getElem? (i := 8) rfl) rfl), ⟨by decide, by decide, by decide +kernel⟩, by decide, by decide⟩
theorem mv_X8_add : MV M_X8_add := ⟨(inT8 (List.mem_of_getElem? (i := 5) rfl) rfl), (inT8 (List.mem_of_getElem? (i := 6) rfl) rfl)⟩
def M_X7_valueOf : MD := (⟨"PlanningHouse$Space", "valueOf", "(II)I"⟩, prog_9_method_6_code, 3, (some .int))
theorem mk_X7_valueOf : MK M_X7_valueOf 2 := ⟨(inT5 (List.mem_of_getElem? (i := 117) rfl) rfl), (inT1 (List.mem_of_getElem? (i := 14) rfl) rfl), ⟨by decide, by decide, by decide +kernel⟩, by decide, by decide⟩
theorem mv_X7_valueOf : MV M_X7_valueOf := ⟨(inT5 (List.mem_of_getElem? (i := 115) rfl) rfl), (inT5 (List.mem_of_getElem? (i := 116) rfl) rfl)⟩
def M_X12_save : MD := (⟨"PlanningHouseModel", "save", "(I)I"⟩, prog_14_method_173_code, 7, (some .int))
theorem mk_X12_save : MK M_X12_save 1 := ⟨(inT12 (List.mem_of_getElem? (i := 134) rfl) rfl), (inT1 (List.mem_of_getElem? (i := 9) rfl) rfl), ⟨by decide, by decide, by decide +kernel⟩, by decide, by decide⟩
theorem mv_X12_save : MV M_X12_save := ⟨(inT12 (List.mem_of_getElem? (i := 132) rfl) rfl), (inT12 (List.mem_of_getElem? (i := 133) rfl) rfl)⟩
def M_X12_isProblem : MD := (⟨"PlanningHouseModel", "isProblem", "(I)Z"⟩, prog_14_method_52_code, 2, (some .boolean))
theorem mk_X12_isProblem : MK M_X12_isProblem 1 := ⟨(inT10 (List.mem_of_getElem? (i := 142) rfl) rfl), (inT1 (List.mem_of_getElem? (i := 9) rfl) rfl), ⟨by decide, by decide, by decide +kernel⟩, by decide, by decide⟩
theorem mv_X12_isProblem : MV M_X12_isProblem := ⟨(inT10 (List.mem_of_getElem? (i := 141) rfl) rfl), (inP (List.mem_of_getElem? (i := 113) rfl) rfl)⟩
def M_X12_storeBytes : MD := (⟨"PlanningHouseModel", "storeBytes", "(JI)V"⟩, prog_14_method_170_code, 5, none)
theorem mk_X12_storeBytes : MK M_X12_storeBytes 2 := ⟨(inT12 (List.mem_of_getElem? (i := 143) rfl) rfl), (inT1 (List.mem_of_getElem? (i := 9) rfl) rfl), ⟨by decide, by decide, by decide +kernel⟩, by decide, by decide⟩
theorem mv_X12_storeBytes : MV M_X12_storeBytes := ⟨(inT12 (List.mem_of_getElem? (i := 142) rfl) rfl), (inP (List.mem_of_getElem? (i := 178) rfl) rfl)⟩
def M_X11_below : MD := (⟨"PlanningHouse", "below", "()J"⟩, prog_1_method_58_code, 1, (some .long))
theorem mk_X11_below : MK M_X11_below 0 := ⟨(inT7 (List.mem_of_getElem? (i := 239) rfl) rfl), (inT1 (List.mem_of_getElem? (i := 1) rfl) rfl), ⟨by decide, by decide, by decide +kernel⟩, by decide, by decide⟩
theorem mv_X11_below : MV M_X11_below := ⟨(inT7 (List.mem_of_getElem? (i := 237) rfl) rfl), (inT7 (List.mem_of_getElem? (i := 238) rfl) rfl)⟩
def M_X12_below : MD := (⟨"PlanningHouseModel", "below", "()J"⟩, prog_14_method_169_code, 1, (some .long))
theorem mk_X12_below : MK M_X12_below 0 := ⟨(inT12 (List.mem_of_getElem? (i := 130) rfl) rfl), (inT1 (List.mem_of_getElem? (i := 9) rfl) rfl), ⟨by decide, by decide, by decide +kernel⟩, by decide, by decide⟩
theorem mv_X12_below : MV M_X12_below := ⟨(inT12 (List.mem_of_getElem? (i := 128) rfl) rfl), (inT12 (List.mem_of_getElem? (i := 129) rfl) rfl)⟩
def M_X11_above : MD := (⟨"PlanningHouse", "above", "()J"⟩, prog_1_method_57_code, 1, (some .long))
theorem mk_X11_above : MK M_X11_above 0 := ⟨(inT7 (List.mem_of_getElem? (i := 235) rfl) rfl), (inT1 (List.mem_of_getElem? (i := 1) rfl) rfl), ⟨by decide, by decide, by decide +kernel⟩, by decide, by decide⟩
theorem mv_X11_above : MV M_X11_above := ⟨(inT7 (List.mem_of_getElem? (i := 233) rfl) rfl), (inT7 (List.mem_of_getElem? (i := 234) rfl) rfl)⟩
def M_X12_above : MD := (⟨"PlanningHouseModel", "above", "()J"⟩, prog_14_method_168_code, 1, (some .long))
theorem mk_X12_above : MK M_X12_above 0 := ⟨(inT12 (List.mem_of_getElem? (i := 126) rfl) rfl), (inT1 (List.mem_of_getElem? (i := 9) rfl) rfl), ⟨by decide, by decide, by decide +kernel⟩, by decide, by decide⟩
theorem mv_X12_above : MV M_X12_above := ⟨(inT12 (List.mem_of_getElem? (i := 124) rfl) rfl), (inT12 (List.mem_of_getElem? (i := 125) rfl) rfl)⟩
def M_X11_prove : MD := (⟨"PlanningHouse", "prove", "(I)I"⟩, prog_1_method_56_code, 3, (some .int))
theorem mk_X11_prove : MK M_X11_prove 1 := ⟨(inT7 (List.mem_of_getElem? (i := 212) rfl) rfl), (inT1 (List.mem_of_getElem? (i := 1) rfl) rfl), ⟨by decide, by decide, by decide +kernel⟩, by decide, by decide⟩
theorem mv_X11_prove : MV M_X11_prove := ⟨(inT7 (List.mem_of_getElem? (i := 210) rfl) rfl), (inT7 (List.mem_of_getElem? (i := 211) rfl) rfl)⟩
def M_X11_scored : MD := (⟨"PlanningHouse", "scored", "(I)LPlanningHouse$Problem;"⟩, prog_1_method_69_code, 3, (some (.object "PlanningHouse$Problem")))
theorem mk_X11_scored : MK M_X11_scored 1 := ⟨(inT6 (List.mem_of_getElem? (i := 34) rfl) rfl), (inT1 (List.mem_of_getElem? (i := 1) rfl) rfl), ⟨by decide, by decide, by decide +kernel⟩, by decide, by decide⟩
theorem mv_X11_scored : MV M_X11_scored := ⟨(inT6 (List.mem_of_getElem? (i := 33) rfl) rfl), (inP (List.mem_of_getElem? (i := 48) rfl) rfl)⟩
def M_X9_renew : MD := (⟨"PlanningHouse$Table", "renew", "(LPlanningHouse$Problem;)V"⟩, prog_11_method_2_code, 4, none)
theorem mk_X9_renew : MK M_X9_renew 1 := ⟨(inT5 (List.mem_of_getElem? (i := 103) rfl) rfl), (inT1 (List.mem_of_getElem? (i := 16) rfl) rfl), ⟨by decide, by decide, by decide +kernel⟩, by decide, by decide⟩
theorem mv_X9_renew : MV M_X9_renew := ⟨(inT5 (List.mem_of_getElem? (i := 101) rfl) rfl), (inT5 (List.mem_of_getElem? (i := 102) rfl) rfl)⟩
def M_X2_weighAll : MD := (⟨"PlanningHouse$Judge", "weighAll", "(LPlanningHouse$Space;I[I[JI)I"⟩, prog_4_method_12_code, 9, (some .int))
theorem mk_X2_weighAll : MK M_X2_weighAll 5 := ⟨(inT5 (List.mem_of_getElem? (i := 109) rfl) rfl), (inT1 (List.mem_of_getElem? (i := 15) rfl) rfl), ⟨by decide, by decide, by decide +kernel⟩, by decide, by decide⟩
theorem mv_X2_weighAll : MV M_X2_weighAll := ⟨(inT5 (List.mem_of_getElem? (i := 107) rfl) rfl), (inT5 (List.mem_of_getElem? (i := 108) rfl) rfl)⟩
def M_X2_look : MD := (⟨"PlanningHouse$Judge", "look", "(LPlanningHouse$Space;I)V"⟩, prog_4_method_10_code, 4, none)
theorem mk_X2_look : MK M_X2_look 2 := ⟨(inT5 (List.mem_of_getElem? (i := 113) rfl) rfl), (inT1 (List.mem_of_getElem? (i := 15) rfl) rfl), ⟨by decide, by decide, by decide +kernel⟩, by decide, by decide⟩
theorem mv_X2_look : MV M_X2_look := ⟨(inT5 (List.mem_of_getElem? (i := 111) rfl) rfl), (inT5 (List.mem_of_getElem? (i := 112) rfl) rfl)⟩
def M_X2_run : MD := (⟨"PlanningHouse$Judge", "run", "(I[I)I"⟩, prog_4_method_11_code, 8, (some .int))
theorem mk_X2_run : MK M_X2_run 2 := ⟨(inT5 (List.mem_of_getElem? (i := 121) rfl) rfl), (inT1 (List.mem_of_getElem? (i := 15) rfl) rfl), ⟨by decide, by decide, by decide +kernel⟩, by decide, by decide⟩
theorem mv_X2_run : MV M_X2_run := ⟨(inT5 (List.mem_of_getElem? (i := 119) rfl) rfl), (inT5 (List.mem_of_getElem? (i := 120) rfl) rfl)⟩
def M_X9_beatsHand : MD := (⟨"PlanningHouse$Table", "beatsHand", "(LPlanningHouse$Problem;)Z"⟩, prog_11_method_11_code, 3, (some .boolean))
theorem mk_X9_beatsHand : MK M_X9_beatsHand 1 := ⟨(inT7 (List.mem_of_getElem? (i := 216) rfl) rfl), (inT1 (List.mem_of_getElem? (i := 16) rfl) rfl), ⟨by decide, by decide, by decide +kernel⟩, by decide, by decide⟩
theorem mv_X9_beatsHand : MV M_X9_beatsHand := ⟨(inT7 (List.mem_of_getElem? (i := 214) rfl) rfl), (inT7 (List.mem_of_getElem? (i := 215) rfl) rfl)⟩
def M_X9_gather : MD := (⟨"PlanningHouse$Table", "gather", "(LPlanningHouse$Problem;I)I"⟩, prog_11_method_6_code, 5, (some .int))
theorem mk_X9_gather : MK M_X9_gather 2 := ⟨(inT6 (List.mem_of_getElem? (i := 97) rfl) rfl), (inT1 (List.mem_of_getElem? (i := 16) rfl) rfl), ⟨by decide, by decide, by decide +kernel⟩, by decide, by decide⟩
theorem mv_X9_gather : MV M_X9_gather := ⟨(inT6 (List.mem_of_getElem? (i := 95) rfl) rfl), (inT6 (List.mem_of_getElem? (i := 96) rfl) rfl)⟩
def M_X9_scoreOf : MD := (⟨"PlanningHouse$Table", "scoreOf", "(II)J"⟩, prog_11_method_3_code, 4, (some .long))
theorem mk_X9_scoreOf : MK M_X9_scoreOf 2 := ⟨(inT6 (List.mem_of_getElem? (i := 112) rfl) rfl), (inT1 (List.mem_of_getElem? (i := 16) rfl) rfl), ⟨by decide, by decide, by decide +kernel⟩, by decide, by decide⟩
theorem mv_X9_scoreOf : MV M_X9_scoreOf := ⟨(inT6 (List.mem_of_getElem? (i := 110) rfl) rfl), (inT6 (List.mem_of_getElem? (i := 111) rfl) rfl)⟩
def M_X4_fits : MD := (⟨"PlanningHouse$Proof", "fits", "(LPlanningHouse$Problem;)Z"⟩, prog_6_method_8_code, 5, (some .boolean))
theorem mk_X4_fits : MK M_X4_fits 1 := ⟨(inT7 (List.mem_of_getElem? (i := 220) rfl) rfl), (inT1 (List.mem_of_getElem? (i := 7) rfl) rfl), ⟨by decide, by decide, by decide +kernel⟩, by decide, by decide⟩
theorem mv_X4_fits : MV M_X4_fits := ⟨(inT7 (List.mem_of_getElem? (i := 218) rfl) rfl), (inT7 (List.mem_of_getElem? (i := 219) rfl) rfl)⟩
def M_X4_write : MD := (⟨"PlanningHouse$Proof", "write", "(LPlanningHouse$Problem;LPlanningHouse$Bytes;)V"⟩, prog_6_method_9_code, 3, none)
theorem mk_X4_write : MK M_X4_write 2 := ⟨(inT7 (List.mem_of_getElem? (i := 225) rfl) rfl), (inT1 (List.mem_of_getElem? (i := 7) rfl) rfl), ⟨by decide, by decide, by decide +kernel⟩, by decide, by decide⟩
theorem mv_X4_write : MV M_X4_write := ⟨(inT7 (List.mem_of_getElem? (i := 223) rfl) rfl), (inT7 (List.mem_of_getElem? (i := 224) rfl) rfl)⟩
def M_X12_prove : MD := (⟨"PlanningHouseModel", "prove", "(I)I"⟩, prog_14_method_167_code, 4, (some .int))
theorem mk_X12_prove : MK M_X12_prove 1 := ⟨(inT12 (List.mem_of_getElem? (i := 114) rfl) rfl), (inT1 (List.mem_of_getElem? (i := 9) rfl) rfl), ⟨by decide, by decide, by decide +kernel⟩, by decide, by decide⟩
theorem mv_X12_prove : MV M_X12_prove := ⟨(inT12 (List.mem_of_getElem? (i := 112) rfl) rfl), (inT12 (List.mem_of_getElem? (i := 113) rfl) rfl)⟩
def M_X12_know : MD := (⟨"PlanningHouseModel", "know", "(I)V"⟩, prog_14_method_90_code, 2, none)
theorem mk_X12_know : MK M_X12_know 1 := ⟨(inT10 (List.mem_of_getElem? (i := 187) rfl) rfl), (inT1 (List.mem_of_getElem? (i := 9) rfl) rfl), ⟨by decide, by decide, by decide +kernel⟩, by decide, by decide⟩
theorem mv_X12_know : MV M_X12_know := ⟨(inT10 (List.mem_of_getElem? (i := 186) rfl) rfl), (inP (List.mem_of_getElem? (i := 118) rfl) rfl)⟩
def M_X12_rulesOf : MD := (⟨"PlanningHouseModel", "rulesOf", "(I)I"⟩, prog_14_method_55_code, 2, (some .int))
theorem mk_X12_rulesOf : MK M_X12_rulesOf 1 := ⟨(inT10 (List.mem_of_getElem? (i := 183) rfl) rfl), (inT1 (List.mem_of_getElem? (i := 9) rfl) rfl), ⟨by decide, by decide, by decide +kernel⟩, by decide, by decide⟩
theorem mv_X12_rulesOf : MV M_X12_rulesOf := ⟨(inT10 (List.mem_of_getElem? (i := 182) rfl) rfl), (inP (List.mem_of_getElem? (i := 117) rfl) rfl)⟩
def M_X12_aimsOf : MD := (⟨"PlanningHouseModel", "aimsOf", "(I)I"⟩, prog_14_method_56_code, 2, (some .int))
theorem mk_X12_aimsOf : MK M_X12_aimsOf 1 := ⟨(inT11 (List.mem_of_getElem? (i := 44) rfl) rfl), (inT1 (List.mem_of_getElem? (i := 9) rfl) rfl), ⟨by decide, by decide, by decide +kernel⟩, by decide, by decide⟩
theorem mv_X12_aimsOf : MV M_X12_aimsOf := ⟨(inT11 (List.mem_of_getElem? (i := 43) rfl) rfl), (inP (List.mem_of_getElem? (i := 141) rfl) rfl)⟩
def M_X12_handOf : MD := (⟨"PlanningHouseModel", "handOf", "(I)I"⟩, prog_14_method_85_code, 4, (some .int))
theorem mk_X12_handOf : MK M_X12_handOf 1 := ⟨(inT11 (List.mem_of_getElem? (i := 84) rfl) rfl), (inT1 (List.mem_of_getElem? (i := 9) rfl) rfl), ⟨by decide, by decide, by decide +kernel⟩, by decide, by decide⟩
theorem mv_X12_handOf : MV M_X12_handOf := ⟨(inT11 (List.mem_of_getElem? (i := 83) rfl) rfl), (inP (List.mem_of_getElem? (i := 144) rfl) rfl)⟩
def M_X12_isFeasible : MD := (⟨"PlanningHouseModel", "isFeasible", "(I)Z"⟩, prog_14_method_92_code, 2, (some .boolean))
theorem mk_X12_isFeasible : MK M_X12_isFeasible 1 := ⟨(inT11 (List.mem_of_getElem? (i := 103) rfl) rfl), (inT1 (List.mem_of_getElem? (i := 9) rfl) rfl), ⟨by decide, by decide, by decide +kernel⟩, by decide, by decide⟩
theorem mv_X12_isFeasible : MV M_X12_isFeasible := ⟨(inT11 (List.mem_of_getElem? (i := 102) rfl) rfl), (inP (List.mem_of_getElem? (i := 145) rfl) rfl)⟩
def M_X11_check : MD := (⟨"PlanningHouse", "check", "(I)I"⟩, prog_1_method_55_code, 4, (some .int))
theorem mk_X11_check : MK M_X11_check 1 := ⟨(inT7 (List.mem_of_getElem? (i := 162) rfl) rfl), (inT1 (List.mem_of_getElem? (i := 1) rfl) rfl), ⟨by decide, by decide, by decide +kernel⟩, by decide, by decide⟩
theorem mv_X11_check : MV M_X11_check := ⟨(inT7 (List.mem_of_getElem? (i := 160) rfl) rfl), (inT7 (List.mem_of_getElem? (i := 161) rfl) rfl)⟩
def M_X4_isRight : MD := (⟨"PlanningHouse$Proof", "isRight", "(LPlanningHouse$Problem;LPlanningHouse$Bytes;)Z"⟩, prog_6_method_2_code, 3, (some .boolean))
theorem mk_X4_isRight : MK M_X4_isRight 2 := ⟨(inT7 (List.mem_of_getElem? (i := 166) rfl) rfl), (inT1 (List.mem_of_getElem? (i := 7) rfl) rfl), ⟨by decide, by decide, by decide +kernel⟩, by decide, by decide⟩
theorem mv_X4_isRight : MV M_X4_isRight := ⟨(inT7 (List.mem_of_getElem? (i := 164) rfl) rfl), (inT7 (List.mem_of_getElem? (i := 165) rfl) rfl)⟩
def M_X12_check : MD := (⟨"PlanningHouseModel", "check", "(I)I"⟩, prog_14_method_164_code, 2, (some .int))
theorem mk_X12_check : MK M_X12_check 1 := ⟨(inT12 (List.mem_of_getElem? (i := 78) rfl) rfl), (inT1 (List.mem_of_getElem? (i := 9) rfl) rfl), ⟨by decide, by decide, by decide +kernel⟩, by decide, by decide⟩
theorem mv_X12_check : MV M_X12_check := ⟨(inT12 (List.mem_of_getElem? (i := 76) rfl) rfl), (inT12 (List.mem_of_getElem? (i := 77) rfl) rfl)⟩
def M_X12_giveAll : MD := (⟨"PlanningHouseModel", "giveAll", "(I)V"⟩, prog_14_method_163_code, 3, none)
theorem mk_X12_giveAll : MK M_X12_giveAll 1 := ⟨(inT12 (List.mem_of_getElem? (i := 82) rfl) rfl), (inT1 (List.mem_of_getElem? (i := 9) rfl) rfl), ⟨by decide, by decide, by decide +kernel⟩, by decide, by decide⟩
theorem mv_X12_giveAll : MV M_X12_giveAll := ⟨(inT12 (List.mem_of_getElem? (i := 81) rfl) rfl), (inP (List.mem_of_getElem? (i := 167) rfl) rfl)⟩
def M_X12_tree : MD := (⟨"PlanningHouseModel", "tree", "(I)V"⟩, prog_14_method_161_code, 4, none)
theorem mk_X12_tree : MK M_X12_tree 1 := ⟨(inT12 (List.mem_of_getElem? (i := 86) rfl) rfl), (inT1 (List.mem_of_getElem? (i := 9) rfl) rfl), ⟨by decide, by decide, by decide +kernel⟩, by decide, by decide⟩
theorem mv_X12_tree : MV M_X12_tree := ⟨(inT12 (List.mem_of_getElem? (i := 85) rfl) rfl), (inP (List.mem_of_getElem? (i := 168) rfl) rfl)⟩
def M_X11_searched : MD := (⟨"PlanningHouse", "searched", "(I)I"⟩, prog_1_method_54_code, 2, (some .int))
theorem mk_X11_searched : MK M_X11_searched 1 := ⟨(inT7 (List.mem_of_getElem? (i := 158) rfl) rfl), (inT1 (List.mem_of_getElem? (i := 1) rfl) rfl), ⟨by decide, by decide, by decide +kernel⟩, by decide, by decide⟩
theorem mv_X11_searched : MV M_X11_searched := ⟨(inT7 (List.mem_of_getElem? (i := 156) rfl) rfl), (inT7 (List.mem_of_getElem? (i := 157) rfl) rfl)⟩
def M_X12_searched : MD := (⟨"PlanningHouseModel", "searched", "(I)I"⟩, prog_14_method_155_code, 2, (some .int))
theorem mk_X12_searched : MK M_X12_searched 1 := ⟨(inT12 (List.mem_of_getElem? (i := 74) rfl) rfl), (inT1 (List.mem_of_getElem? (i := 9) rfl) rfl), ⟨by decide, by decide, by decide +kernel⟩, by decide, by decide⟩
theorem mv_X12_searched : MV M_X12_searched := ⟨(inT12 (List.mem_of_getElem? (i := 72) rfl) rfl), (inT12 (List.mem_of_getElem? (i := 73) rfl) rfl)⟩
def M_X11_search : MD := (⟨"PlanningHouse", "search", "(IIIII)I"⟩, prog_1_method_53_code, 7, (some .int))
theorem mk_X11_search : MK M_X11_search 5 := ⟨(inT7 (List.mem_of_getElem? (i := 111) rfl) rfl), (inT1 (List.mem_of_getElem? (i := 1) rfl) rfl), ⟨by decide, by decide, by decide +kernel⟩, by decide, by decide⟩
theorem mv_X11_search : MV M_X11_search := ⟨(inT7 (List.mem_of_getElem? (i := 109) rfl) rfl), (inT7 (List.mem_of_getElem? (i := 110) rfl) rfl)⟩
def M_X6_mayBe : MD := (⟨"PlanningHouse$Search", "mayBe", "(II)Z"⟩, prog_8_method_2_code, 2, (some .boolean))
theorem mk_X6_mayBe : MK M_X6_mayBe 2 := ⟨(inT7 (List.mem_of_getElem? (i := 114) rfl) rfl), (inT1 (List.mem_of_getElem? (i := 6) rfl) rfl), ⟨by decide, by decide, by decide +kernel⟩, by decide, by decide⟩
theorem ms_X6_mayBe : MS M_X6_mayBe := (inT7 (List.mem_of_getElem? (i := 113) rfl) rfl)
def M_X6_seek : MD := (⟨"PlanningHouse$Search", "seek", "(LPlanningHouse$Problem;IIII)I"⟩, prog_8_method_3_code, 8, (some .int))
theorem mk_X6_seek : MK M_X6_seek 5 := ⟨(inT7 (List.mem_of_getElem? (i := 118) rfl) rfl), (inT1 (List.mem_of_getElem? (i := 6) rfl) rfl), ⟨by decide, by decide, by decide +kernel⟩, by decide, by decide⟩
theorem mv_X6_seek : MV M_X6_seek := ⟨(inT7 (List.mem_of_getElem? (i := 116) rfl) rfl), (inT7 (List.mem_of_getElem? (i := 117) rfl) rfl)⟩
def M_X3_moveTo : MD := (⟨"PlanningHouse$Problem", "moveTo", "(I)Z"⟩, prog_5_method_8_code, 2, (some .boolean))
theorem mk_X3_moveTo : MK M_X3_moveTo 1 := ⟨(inT6 (List.mem_of_getElem? (i := 116) rfl) rfl), (inT1 (List.mem_of_getElem? (i := 13) rfl) rfl), ⟨by decide, by decide, by decide +kernel⟩, by decide, by decide⟩
theorem mv_X3_moveTo : MV M_X3_moveTo := ⟨(inT6 (List.mem_of_getElem? (i := 114) rfl) rfl), (inT6 (List.mem_of_getElem? (i := 115) rfl) rfl)⟩
def M_X12_search : MD := (⟨"PlanningHouseModel", "search", "(IIIII)I"⟩, prog_14_method_154_code, 18, (some .int))
theorem mk_X12_search : MK M_X12_search 5 := ⟨(inT12 (List.mem_of_getElem? (i := 50) rfl) rfl), (inT1 (List.mem_of_getElem? (i := 9) rfl) rfl), ⟨by decide, by decide, by decide +kernel⟩, by decide, by decide⟩
theorem mv_X12_search : MV M_X12_search := ⟨(inT12 (List.mem_of_getElem? (i := 48) rfl) rfl), (inT12 (List.mem_of_getElem? (i := 49) rfl) rfl)⟩
def M_X12_putAtHand : MD := (⟨"PlanningHouseModel", "putAtHand", "(II)V"⟩, prog_14_method_86_code, 4, none)
theorem mk_X12_putAtHand : MK M_X12_putAtHand 2 := ⟨(inT11 (List.mem_of_getElem? (i := 147) rfl) rfl), (inT1 (List.mem_of_getElem? (i := 9) rfl) rfl), ⟨by decide, by decide, by decide +kernel⟩, by decide, by decide⟩
theorem mv_X12_putAtHand : MV M_X12_putAtHand := ⟨(inT11 (List.mem_of_getElem? (i := 146) rfl) rfl), (inP (List.mem_of_getElem? (i := 152) rfl) rfl)⟩
def M_X11_regret : MD := (⟨"PlanningHouse", "regret", "(II)J"⟩, prog_1_method_52_code, 9, (some .long))
theorem mk_X11_regret : MK M_X11_regret 2 := ⟨(inT7 (List.mem_of_getElem? (i := 101) rfl) rfl), (inT1 (List.mem_of_getElem? (i := 1) rfl) rfl), ⟨by decide, by decide, by decide +kernel⟩, by decide, by decide⟩
theorem mv_X11_regret : MV M_X11_regret := ⟨(inT7 (List.mem_of_getElem? (i := 99) rfl) rfl), (inT7 (List.mem_of_getElem? (i := 100) rfl) rfl)⟩
def M_X11_isLevel : MD := (⟨"PlanningHouse", "isLevel", "(I)Z"⟩, prog_1_method_67_code, 1, (some .boolean))
theorem mk_X11_isLevel : MK M_X11_isLevel 1 := ⟨(inT6 (List.mem_of_getElem? (i := 21) rfl) rfl), (inT1 (List.mem_of_getElem? (i := 1) rfl) rfl), ⟨by decide, by decide, by decide +kernel⟩, by decide, by decide⟩
theorem ms_X11_isLevel : MS M_X11_isLevel := (inT6 (List.mem_of_getElem? (i := 20) rfl) rfl)
def M_X12_regret : MD := (⟨"PlanningHouseModel", "regret", "(II)J"⟩, prog_14_method_149_code, 13, (some .long))
theorem mk_X12_regret : MK M_X12_regret 2 := ⟨(inT12 (List.mem_of_getElem? (i := 46) rfl) rfl), (inT1 (List.mem_of_getElem? (i := 9) rfl) rfl), ⟨by decide, by decide, by decide +kernel⟩, by decide, by decide⟩
theorem mv_X12_regret : MV M_X12_regret := ⟨(inT12 (List.mem_of_getElem? (i := 44) rfl) rfl), (inT12 (List.mem_of_getElem? (i := 45) rfl) rfl)⟩
def M_X12_isLevel : MD := (⟨"PlanningHouseModel", "isLevel", "(I)Z"⟩, prog_14_method_97_code, 1, (some .boolean))
theorem mk_X12_isLevel : MK M_X12_isLevel 1 := ⟨(inT11 (List.mem_of_getElem? (i := 95) rfl) rfl), (inT1 (List.mem_of_getElem? (i := 9) rfl) rfl), ⟨by decide, by decide, by decide +kernel⟩, by decide, by decide⟩
theorem ms_X12_isLevel : MS M_X12_isLevel := (inT11 (List.mem_of_getElem? (i := 94) rfl) rfl)
def M_X11_expected : MD := (⟨"PlanningHouse", "expected", "(II)J"⟩, prog_1_method_51_code, 4, (some .long))
theorem mk_X11_expected : MK M_X11_expected 2 := ⟨(inT7 (List.mem_of_getElem? (i := 92) rfl) rfl), (inT1 (List.mem_of_getElem? (i := 1) rfl) rfl), ⟨by decide, by decide, by decide +kernel⟩, by decide, by decide⟩
theorem mv_X11_expected : MV M_X11_expected := ⟨(inT7 (List.mem_of_getElem? (i := 90) rfl) rfl), (inT7 (List.mem_of_getElem? (i := 91) rfl) rfl)⟩
def M_X3_sumOverFutures : MD := (⟨"PlanningHouse$Problem", "sumOverFutures", "(I)Z"⟩, prog_5_method_17_code, 6, (some .boolean))
theorem mk_X3_sumOverFutures : MK M_X3_sumOverFutures 1 := ⟨(inT7 (List.mem_of_getElem? (i := 80) rfl) rfl), (inT1 (List.mem_of_getElem? (i := 13) rfl) rfl), ⟨by decide, by decide, by decide +kernel⟩, by decide, by decide⟩
theorem mv_X3_sumOverFutures : MV M_X3_sumOverFutures := ⟨(inT7 (List.mem_of_getElem? (i := 78) rfl) rfl), (inT7 (List.mem_of_getElem? (i := 79) rfl) rfl)⟩
def M_X3_allOdds : MD := (⟨"PlanningHouse$Problem", "allOdds", "()I"⟩, prog_5_method_15_code, 3, (some .int))
theorem mk_X3_allOdds : MK M_X3_allOdds 0 := ⟨(inT7 (List.mem_of_getElem? (i := 97) rfl) rfl), (inT1 (List.mem_of_getElem? (i := 13) rfl) rfl), ⟨by decide, by decide, by decide +kernel⟩, by decide, by decide⟩
theorem mv_X3_allOdds : MV M_X3_allOdds := ⟨(inT7 (List.mem_of_getElem? (i := 95) rfl) rfl), (inT7 (List.mem_of_getElem? (i := 96) rfl) rfl)⟩
def M_X11_show : MD := (⟨"PlanningHouse", "show", "(JJ)V"⟩, prog_1_method_73_code, 12, none)
theorem mk_X11_show : MK M_X11_show 2 := ⟨(inT6 (List.mem_of_getElem? (i := 150) rfl) rfl), (inT1 (List.mem_of_getElem? (i := 1) rfl) rfl), ⟨by decide, by decide, by decide +kernel⟩, by decide, by decide⟩
theorem mv_X11_show : MV M_X11_show := ⟨(inT6 (List.mem_of_getElem? (i := 149) rfl) rfl), (inP (List.mem_of_getElem? (i := 53) rfl) rfl)⟩
def M_X12_expected : MD := (⟨"PlanningHouseModel", "expected", "(II)J"⟩, prog_14_method_148_code, 9, (some .long))
theorem mk_X12_expected : MK M_X12_expected 2 := ⟨(inT12 (List.mem_of_getElem? (i := 42) rfl) rfl), (inT1 (List.mem_of_getElem? (i := 9) rfl) rfl), ⟨by decide, by decide, by decide +kernel⟩, by decide, by decide⟩
theorem mv_X12_expected : MV M_X12_expected := ⟨(inT12 (List.mem_of_getElem? (i := 40) rfl) rfl), (inT12 (List.mem_of_getElem? (i := 41) rfl) rfl)⟩
def M_X11_robust : MD := (⟨"PlanningHouse", "robust", "(I)I"⟩, prog_1_method_50_code, 4, (some .int))
theorem mk_X11_robust : MK M_X11_robust 1 := ⟨(inT7 (List.mem_of_getElem? (i := 72) rfl) rfl), (inT1 (List.mem_of_getElem? (i := 1) rfl) rfl), ⟨by decide, by decide, by decide +kernel⟩, by decide, by decide⟩
theorem mv_X11_robust : MV M_X11_robust := ⟨(inT7 (List.mem_of_getElem? (i := 70) rfl) rfl), (inT7 (List.mem_of_getElem? (i := 71) rfl) rfl)⟩
def M_X3_mostRobust : MD := (⟨"PlanningHouse$Problem", "mostRobust", "()I"⟩, prog_5_method_18_code, 4, (some .int))
theorem mk_X3_mostRobust : MK M_X3_mostRobust 0 := ⟨(inT7 (List.mem_of_getElem? (i := 76) rfl) rfl), (inT1 (List.mem_of_getElem? (i := 13) rfl) rfl), ⟨by decide, by decide, by decide +kernel⟩, by decide, by decide⟩
theorem mv_X3_mostRobust : MV M_X3_mostRobust := ⟨(inT7 (List.mem_of_getElem? (i := 74) rfl) rfl), (inT7 (List.mem_of_getElem? (i := 75) rfl) rfl)⟩
def M_X12_robust : MD := (⟨"PlanningHouseModel", "robust", "(I)I"⟩, prog_14_method_147_code, 5, (some .int))
theorem mk_X12_robust : MK M_X12_robust 1 := ⟨(inT12 (List.mem_of_getElem? (i := 38) rfl) rfl), (inT1 (List.mem_of_getElem? (i := 9) rfl) rfl), ⟨by decide, by decide, by decide +kernel⟩, by decide, by decide⟩
theorem mv_X12_robust : MV M_X12_robust := ⟨(inT12 (List.mem_of_getElem? (i := 36) rfl) rfl), (inT12 (List.mem_of_getElem? (i := 37) rfl) rfl)⟩
def M_X11_unfold : MD := (⟨"PlanningHouse", "unfold", "(I)I"⟩, prog_1_method_49_code, 4, (some .int))
theorem mk_X11_unfold : MK M_X11_unfold 1 := ⟨(inT7 (List.mem_of_getElem? (i := 68) rfl) rfl), (inT1 (List.mem_of_getElem? (i := 1) rfl) rfl), ⟨by decide, by decide, by decide +kernel⟩, by decide, by decide⟩
theorem mv_X11_unfold : MV M_X11_unfold := ⟨(inT7 (List.mem_of_getElem? (i := 66) rfl) rfl), (inT7 (List.mem_of_getElem? (i := 67) rfl) rfl)⟩
def M_X12_unfold : MD := (⟨"PlanningHouseModel", "unfold", "(I)I"⟩, prog_14_method_146_code, 3, (some .int))
theorem mk_X12_unfold : MK M_X12_unfold 1 := ⟨(inT12 (List.mem_of_getElem? (i := 34) rfl) rfl), (inT1 (List.mem_of_getElem? (i := 9) rfl) rfl), ⟨by decide, by decide, by decide +kernel⟩, by decide, by decide⟩
theorem mv_X12_unfold : MV M_X12_unfold := ⟨(inT12 (List.mem_of_getElem? (i := 32) rfl) rfl), (inT12 (List.mem_of_getElem? (i := 33) rfl) rfl)⟩
def M_X11_told : MD := (⟨"PlanningHouse", "told", "(IIII)Z"⟩, prog_1_method_48_code, 6, (some .boolean))
theorem mk_X11_told : MK M_X11_told 4 := ⟨(inT7 (List.mem_of_getElem? (i := 64) rfl) rfl), (inT1 (List.mem_of_getElem? (i := 1) rfl) rfl), ⟨by decide, by decide, by decide +kernel⟩, by decide, by decide⟩
theorem mv_X11_told : MV M_X11_told := ⟨(inT7 (List.mem_of_getElem? (i := 62) rfl) rfl), (inT7 (List.mem_of_getElem? (i := 63) rfl) rfl)⟩
def M_X3_isFact : MD := (⟨"PlanningHouse$Problem", "isFact", "(I)Z"⟩, prog_5_method_6_code, 2, (some .boolean))
theorem mk_X3_isFact : MK M_X3_isFact 1 := ⟨(inT5 (List.mem_of_getElem? (i := 211) rfl) rfl), (inT1 (List.mem_of_getElem? (i := 13) rfl) rfl), ⟨by decide, by decide, by decide +kernel⟩, by decide, by decide⟩
theorem mv_X3_isFact : MV M_X3_isFact := ⟨(inT5 (List.mem_of_getElem? (i := 209) rfl) rfl), (inT5 (List.mem_of_getElem? (i := 210) rfl) rfl)⟩
def M_X12_told : MD := (⟨"PlanningHouseModel", "told", "(IIII)Z"⟩, prog_14_method_145_code, 5, (some .boolean))
theorem mk_X12_told : MK M_X12_told 4 := ⟨(inT12 (List.mem_of_getElem? (i := 30) rfl) rfl), (inT1 (List.mem_of_getElem? (i := 9) rfl) rfl), ⟨by decide, by decide, by decide +kernel⟩, by decide, by decide⟩
theorem mv_X12_told : MV M_X12_told := ⟨(inT12 (List.mem_of_getElem? (i := 28) rfl) rfl), (inT12 (List.mem_of_getElem? (i := 29) rfl) rfl)⟩
def M_X12_isFact : MD := (⟨"PlanningHouseModel", "isFact", "(II)Z"⟩, prog_14_method_57_code, 3, (some .boolean))
theorem mk_X12_isFact : MK M_X12_isFact 2 := ⟨(inT11 (List.mem_of_getElem? (i := 52) rfl) rfl), (inT1 (List.mem_of_getElem? (i := 9) rfl) rfl), ⟨by decide, by decide, by decide +kernel⟩, by decide, by decide⟩
theorem mv_X12_isFact : MV M_X12_isFact := ⟨(inT11 (List.mem_of_getElem? (i := 51) rfl) rfl), (inP (List.mem_of_getElem? (i := 142) rfl) rfl)⟩
def M_X11_future : MD := (⟨"PlanningHouse", "future", "(II)I"⟩, prog_1_method_47_code, 4, (some .int))
theorem mk_X11_future : MK M_X11_future 2 := ⟨(inT7 (List.mem_of_getElem? (i := 55) rfl) rfl), (inT1 (List.mem_of_getElem? (i := 1) rfl) rfl), ⟨by decide, by decide, by decide +kernel⟩, by decide, by decide⟩
theorem mv_X11_future : MV M_X11_future := ⟨(inT7 (List.mem_of_getElem? (i := 53) rfl) rfl), (inT7 (List.mem_of_getElem? (i := 54) rfl) rfl)⟩
def M_X3_addFuture : MD := (⟨"PlanningHouse$Problem", "addFuture", "(I)I"⟩, prog_5_method_14_code, 2, (some .int))
theorem mk_X3_addFuture : MK M_X3_addFuture 1 := ⟨(inT7 (List.mem_of_getElem? (i := 59) rfl) rfl), (inT1 (List.mem_of_getElem? (i := 13) rfl) rfl), ⟨by decide, by decide, by decide +kernel⟩, by decide, by decide⟩
theorem mv_X3_addFuture : MV M_X3_addFuture := ⟨(inT7 (List.mem_of_getElem? (i := 57) rfl) rfl), (inT7 (List.mem_of_getElem? (i := 58) rfl) rfl)⟩
def M_X12_future : MD := (⟨"PlanningHouseModel", "future", "(II)I"⟩, prog_14_method_144_code, 5, (some .int))
theorem mk_X12_future : MK M_X12_future 2 := ⟨(inT12 (List.mem_of_getElem? (i := 26) rfl) rfl), (inT1 (List.mem_of_getElem? (i := 9) rfl) rfl), ⟨by decide, by decide, by decide +kernel⟩, by decide, by decide⟩
theorem mv_X12_future : MV M_X12_future := ⟨(inT12 (List.mem_of_getElem? (i := 24) rfl) rfl), (inT12 (List.mem_of_getElem? (i := 25) rfl) rfl)⟩
def M_X11_because : MD := (⟨"PlanningHouse", "because", "(III)I"⟩, prog_1_method_46_code, 6, (some .int))
theorem mk_X11_because : MK M_X11_because 3 := ⟨(inT7 (List.mem_of_getElem? (i := 47) rfl) rfl), (inT1 (List.mem_of_getElem? (i := 1) rfl) rfl), ⟨by decide, by decide, by decide +kernel⟩, by decide, by decide⟩
theorem mv_X11_because : MV M_X11_because := ⟨(inT7 (List.mem_of_getElem? (i := 45) rfl) rfl), (inT7 (List.mem_of_getElem? (i := 46) rfl) rfl)⟩
def M_X3_firstBestWith : MD := (⟨"PlanningHouse$Problem", "firstBestWith", "(II)I"⟩, prog_5_method_10_code, 4, (some .int))
theorem mk_X3_firstBestWith : MK M_X3_firstBestWith 2 := ⟨(inT7 (List.mem_of_getElem? (i := 39) rfl) rfl), (inT1 (List.mem_of_getElem? (i := 13) rfl) rfl), ⟨by decide, by decide, by decide +kernel⟩, by decide, by decide⟩
theorem mv_X3_firstBestWith : MV M_X3_firstBestWith := ⟨(inT7 (List.mem_of_getElem? (i := 37) rfl) rfl), (inT7 (List.mem_of_getElem? (i := 38) rfl) rfl)⟩
def M_X9_keepValue : MD := (⟨"PlanningHouse$Table", "keepValue", "(LPlanningHouse$Space;II)I"⟩, prog_11_method_9_code, 6, (some .int))
theorem mk_X9_keepValue : MK M_X9_keepValue 3 := ⟨(inT6 (List.mem_of_getElem? (i := 145) rfl) rfl), (inT1 (List.mem_of_getElem? (i := 16) rfl) rfl), ⟨by decide, by decide, by decide +kernel⟩, by decide, by decide⟩
theorem mv_X9_keepValue : MV M_X9_keepValue := ⟨(inT6 (List.mem_of_getElem? (i := 143) rfl) rfl), (inT6 (List.mem_of_getElem? (i := 144) rfl) rfl)⟩
def M_X9_keepBest : MD := (⟨"PlanningHouse$Table", "keepBest", "()I"⟩, prog_11_method_8_code, 4, (some .int))
theorem mk_X9_keepBest : MK M_X9_keepBest 0 := ⟨(inT6 (List.mem_of_getElem? (i := 104) rfl) rfl), (inT1 (List.mem_of_getElem? (i := 16) rfl) rfl), ⟨by decide, by decide, by decide +kernel⟩, by decide, by decide⟩
theorem mv_X9_keepBest : MV M_X9_keepBest := ⟨(inT6 (List.mem_of_getElem? (i := 102) rfl) rfl), (inT6 (List.mem_of_getElem? (i := 103) rfl) rfl)⟩
def M_X9_gatherFor : MD := (⟨"PlanningHouse$Table", "gatherFor", "(LPlanningHouse$Problem;Z)I"⟩, prog_11_method_7_code, 3, (some .int))
theorem mk_X9_gatherFor : MK M_X9_gatherFor 2 := ⟨(inT6 (List.mem_of_getElem? (i := 93) rfl) rfl), (inT1 (List.mem_of_getElem? (i := 16) rfl) rfl), ⟨by decide, by decide, by decide +kernel⟩, by decide, by decide⟩
theorem mv_X9_gatherFor : MV M_X9_gatherFor := ⟨(inT6 (List.mem_of_getElem? (i := 91) rfl) rfl), (inT6 (List.mem_of_getElem? (i := 92) rfl) rfl)⟩
def M_X3_firstWorseRule : MD := (⟨"PlanningHouse$Problem", "firstWorseRule", "(II)I"⟩, prog_5_method_11_code, 5, (some .int))
theorem mk_X3_firstWorseRule : MK M_X3_firstWorseRule 2 := ⟨(inT7 (List.mem_of_getElem? (i := 51) rfl) rfl), (inT1 (List.mem_of_getElem? (i := 13) rfl) rfl), ⟨by decide, by decide, by decide +kernel⟩, by decide, by decide⟩
theorem mv_X3_firstWorseRule : MV M_X3_firstWorseRule := ⟨(inT7 (List.mem_of_getElem? (i := 49) rfl) rfl), (inT7 (List.mem_of_getElem? (i := 50) rfl) rfl)⟩
def M_X12_because : MD := (⟨"PlanningHouseModel", "because", "(III)I"⟩, prog_14_method_143_code, 7, (some .int))
theorem mk_X12_because : MK M_X12_because 3 := ⟨(inT12 (List.mem_of_getElem? (i := 22) rfl) rfl), (inT1 (List.mem_of_getElem? (i := 9) rfl) rfl), ⟨by decide, by decide, by decide +kernel⟩, by decide, by decide⟩
theorem mv_X12_because : MV M_X12_because := ⟨(inT12 (List.mem_of_getElem? (i := 20) rfl) rfl), (inT12 (List.mem_of_getElem? (i := 21) rfl) rfl)⟩
def M_X12_isVar : MD := (⟨"PlanningHouseModel", "isVar", "(II)Z"⟩, prog_14_method_58_code, 3, (some .boolean))
theorem mk_X12_isVar : MK M_X12_isVar 2 := ⟨(inT10 (List.mem_of_getElem? (i := 170) rfl) rfl), (inT1 (List.mem_of_getElem? (i := 9) rfl) rfl), ⟨by decide, by decide, by decide +kernel⟩, by decide, by decide⟩
theorem mv_X12_isVar : MV M_X12_isVar := ⟨(inT10 (List.mem_of_getElem? (i := 169) rfl) rfl), (inP (List.mem_of_getElem? (i := 115) rfl) rfl)⟩
def M_X12_bestWith : MD := (⟨"PlanningHouseModel", "bestWith", "(III)I"⟩, prog_14_method_141_code, 5, (some .int))
theorem mk_X12_bestWith : MK M_X12_bestWith 3 := ⟨(inT12 (List.mem_of_getElem? (i := 18) rfl) rfl), (inT1 (List.mem_of_getElem? (i := 9) rfl) rfl), ⟨by decide, by decide, by decide +kernel⟩, by decide, by decide⟩
theorem mv_X12_bestWith : MV M_X12_bestWith := ⟨(inT12 (List.mem_of_getElem? (i := 17) rfl) rfl), (inP (List.mem_of_getElem? (i := 162) rfl) rfl)⟩
def M_X12_firstBest : MD := (⟨"PlanningHouseModel", "firstBest", "(III)I"⟩, prog_14_method_95_code, 6, (some .int))
theorem mk_X12_firstBest : MK M_X12_firstBest 3 := ⟨(inT11 (List.mem_of_getElem? (i := 135) rfl) rfl), (inT1 (List.mem_of_getElem? (i := 9) rfl) rfl), ⟨by decide, by decide, by decide +kernel⟩, by decide, by decide⟩
theorem mv_X12_firstBest : MV M_X12_firstBest := ⟨(inT11 (List.mem_of_getElem? (i := 134) rfl) rfl), (inP (List.mem_of_getElem? (i := 149) rfl) rfl)⟩
def M_X11_whyNot : MD := (⟨"PlanningHouse", "whyNot", "(IIII)J"⟩, prog_1_method_45_code, 7, (some .long))
theorem mk_X11_whyNot : MK M_X11_whyNot 4 := ⟨(inT7 (List.mem_of_getElem? (i := 35) rfl) rfl), (inT1 (List.mem_of_getElem? (i := 1) rfl) rfl), ⟨by decide, by decide, by decide +kernel⟩, by decide, by decide⟩
theorem mv_X11_whyNot : MV M_X11_whyNot := ⟨(inT7 (List.mem_of_getElem? (i := 33) rfl) rfl), (inT7 (List.mem_of_getElem? (i := 34) rfl) rfl)⟩
def M_X12_whyNot : MD := (⟨"PlanningHouseModel", "whyNot", "(IIII)J"⟩, prog_14_method_142_code, 6, (some .long))
theorem mk_X12_whyNot : MK M_X12_whyNot 4 := ⟨(inT12 (List.mem_of_getElem? (i := 14) rfl) rfl), (inT1 (List.mem_of_getElem? (i := 9) rfl) rfl), ⟨by decide, by decide, by decide +kernel⟩, by decide, by decide⟩
theorem mv_X12_whyNot : MV M_X12_whyNot := ⟨(inT12 (List.mem_of_getElem? (i := 12) rfl) rfl), (inT12 (List.mem_of_getElem? (i := 13) rfl) rfl)⟩
def M_X11_without : MD := (⟨"PlanningHouse", "without", "(III)J"⟩, prog_1_method_44_code, 5, (some .long))
theorem mk_X11_without : MK M_X11_without 3 := ⟨(inT7 (List.mem_of_getElem? (i := 17) rfl) rfl), (inT1 (List.mem_of_getElem? (i := 1) rfl) rfl), ⟨by decide, by decide, by decide +kernel⟩, by decide, by decide⟩
theorem mv_X11_without : MV M_X11_without := ⟨(inT7 (List.mem_of_getElem? (i := 15) rfl) rfl), (inT7 (List.mem_of_getElem? (i := 16) rfl) rfl)⟩
def M_X3_isRule : MD := (⟨"PlanningHouse$Problem", "isRule", "(I)Z"⟩, prog_5_method_7_code, 2, (some .boolean))
theorem mk_X3_isRule : MK M_X3_isRule 1 := ⟨(inT5 (List.mem_of_getElem? (i := 99) rfl) rfl), (inT1 (List.mem_of_getElem? (i := 13) rfl) rfl), ⟨by decide, by decide, by decide +kernel⟩, by decide, by decide⟩
theorem mv_X3_isRule : MV M_X3_isRule := ⟨(inT5 (List.mem_of_getElem? (i := 97) rfl) rfl), (inT5 (List.mem_of_getElem? (i := 98) rfl) rfl)⟩
def M_X3_bestLacking : MD := (⟨"PlanningHouse$Problem", "bestLacking", "(I)Z"⟩, prog_5_method_12_code, 7, (some .boolean))
theorem mk_X3_bestLacking : MK M_X3_bestLacking 1 := ⟨(inT7 (List.mem_of_getElem? (i := 21) rfl) rfl), (inT1 (List.mem_of_getElem? (i := 13) rfl) rfl), ⟨by decide, by decide, by decide +kernel⟩, by decide, by decide⟩
theorem mv_X3_bestLacking : MV M_X3_bestLacking := ⟨(inT7 (List.mem_of_getElem? (i := 19) rfl) rfl), (inT7 (List.mem_of_getElem? (i := 20) rfl) rfl)⟩
def M_X12_without : MD := (⟨"PlanningHouseModel", "without", "(III)J"⟩, prog_14_method_140_code, 9, (some .long))
theorem mk_X12_without : MK M_X12_without 3 := ⟨(inT12 (List.mem_of_getElem? (i := 10) rfl) rfl), (inT1 (List.mem_of_getElem? (i := 9) rfl) rfl), ⟨by decide, by decide, by decide +kernel⟩, by decide, by decide⟩
theorem mv_X12_without : MV M_X12_without := ⟨(inT12 (List.mem_of_getElem? (i := 8) rfl) rfl), (inT12 (List.mem_of_getElem? (i := 9) rfl) rfl)⟩
def M_X12_isRule : MD := (⟨"PlanningHouseModel", "isRule", "(II)Z"⟩, prog_14_method_59_code, 3, (some .boolean))
theorem mk_X12_isRule : MK M_X12_isRule 2 := ⟨(inT10 (List.mem_of_getElem? (i := 179) rfl) rfl), (inT1 (List.mem_of_getElem? (i := 9) rfl) rfl), ⟨by decide, by decide, by decide +kernel⟩, by decide, by decide⟩
theorem mv_X12_isRule : MV M_X12_isRule := ⟨(inT10 (List.mem_of_getElem? (i := 178) rfl) rfl), (inP (List.mem_of_getElem? (i := 116) rfl) rfl)⟩
def M_X11_relax : MD := (⟨"PlanningHouse", "relax", "(I)I"⟩, prog_1_method_43_code, 3, (some .int))
theorem mk_X11_relax : MK M_X11_relax 1 := ⟨(inT7 (List.mem_of_getElem? (i := 4) rfl) rfl), (inT1 (List.mem_of_getElem? (i := 1) rfl) rfl), ⟨by decide, by decide, by decide +kernel⟩, by decide, by decide⟩
theorem mv_X11_relax : MV M_X11_relax := ⟨(inT7 (List.mem_of_getElem? (i := 2) rfl) rfl), (inT7 (List.mem_of_getElem? (i := 3) rfl) rfl)⟩
def M_X1_cheapest : MD := (⟨"PlanningHouse$Hard", "cheapest", "(LPlanningHouse$Problem;)I"⟩, prog_3_method_10_code, 7, (some .int))
theorem mk_X1_cheapest : MK M_X1_cheapest 1 := ⟨(inT7 (List.mem_of_getElem? (i := 8) rfl) rfl), (inT1 (List.mem_of_getElem? (i := 5) rfl) rfl), ⟨by decide, by decide, by decide +kernel⟩, by decide, by decide⟩
theorem mv_X1_cheapest : MV M_X1_cheapest := ⟨(inT7 (List.mem_of_getElem? (i := 6) rfl) rfl), (inT7 (List.mem_of_getElem? (i := 7) rfl) rfl)⟩
def M_X12_relax : MD := (⟨"PlanningHouseModel", "relax", "(I)I"⟩, prog_14_method_139_code, 7, (some .int))
theorem mk_X12_relax : MK M_X12_relax 1 := ⟨(inT12 (List.mem_of_getElem? (i := 6) rfl) rfl), (inT1 (List.mem_of_getElem? (i := 9) rfl) rfl), ⟨by decide, by decide, by decide +kernel⟩, by decide, by decide⟩
theorem mv_X12_relax : MV M_X12_relax := ⟨(inT12 (List.mem_of_getElem? (i := 4) rfl) rfl), (inT12 (List.mem_of_getElem? (i := 5) rfl) rfl)⟩
def M_X12_findMasks : MD := (⟨"PlanningHouseModel", "findMasks", "(I)V"⟩, prog_14_method_133_code, 5, none)
theorem mk_X12_findMasks : MK M_X12_findMasks 1 := ⟨(inT11 (List.mem_of_getElem? (i := 227) rfl) rfl), (inT1 (List.mem_of_getElem? (i := 9) rfl) rfl), ⟨by decide, by decide, by decide +kernel⟩, by decide, by decide⟩
theorem mv_X12_findMasks : MV M_X12_findMasks := ⟨(inT11 (List.mem_of_getElem? (i := 226) rfl) rfl), (inP (List.mem_of_getElem? (i := 159) rfl) rfl)⟩
def M_X11_fewest : MD := (⟨"PlanningHouse", "fewest", "(I)I"⟩, prog_1_method_42_code, 3, (some .int))
theorem mk_X11_fewest : MK M_X11_fewest 1 := ⟨(inT6 (List.mem_of_getElem? (i := 236) rfl) rfl), (inT1 (List.mem_of_getElem? (i := 1) rfl) rfl), ⟨by decide, by decide, by decide +kernel⟩, by decide, by decide⟩
theorem mv_X11_fewest : MV M_X11_fewest := ⟨(inT6 (List.mem_of_getElem? (i := 234) rfl) rfl), (inT6 (List.mem_of_getElem? (i := 235) rfl) rfl)⟩
def M_X1_smallest : MD := (⟨"PlanningHouse$Hard", "smallest", "(LPlanningHouse$Problem;)I"⟩, prog_3_method_9_code, 7, (some .int))
theorem mk_X1_smallest : MK M_X1_smallest 1 := ⟨(inT7 (List.mem_of_getElem? (i := 0) rfl) rfl), (inT1 (List.mem_of_getElem? (i := 5) rfl) rfl), ⟨by decide, by decide, by decide +kernel⟩, by decide, by decide⟩
theorem mv_X1_smallest : MV M_X1_smallest := ⟨(inT6 (List.mem_of_getElem? (i := 238) rfl) rfl), (inT6 (List.mem_of_getElem? (i := 239) rfl) rfl)⟩
def M_X12_fewest : MD := (⟨"PlanningHouseModel", "fewest", "(I)I"⟩, prog_14_method_138_code, 5, (some .int))
theorem mk_X12_fewest : MK M_X12_fewest 1 := ⟨(inT11 (List.mem_of_getElem? (i := 239) rfl) rfl), (inT1 (List.mem_of_getElem? (i := 9) rfl) rfl), ⟨by decide, by decide, by decide +kernel⟩, by decide, by decide⟩
theorem mv_X12_fewest : MV M_X12_fewest := ⟨(inT11 (List.mem_of_getElem? (i := 237) rfl) rfl), (inT11 (List.mem_of_getElem? (i := 238) rfl) rfl)⟩
def M_X12_clashes : MD := (⟨"PlanningHouseModel", "clashes", "(I)Z"⟩, prog_14_method_134_code, 4, (some .boolean))
theorem mk_X12_clashes : MK M_X12_clashes 1 := ⟨(inT11 (List.mem_of_getElem? (i := 231) rfl) rfl), (inT1 (List.mem_of_getElem? (i := 9) rfl) rfl), ⟨by decide, by decide, by decide +kernel⟩, by decide, by decide⟩
theorem mv_X12_clashes : MV M_X12_clashes := ⟨(inT11 (List.mem_of_getElem? (i := 230) rfl) rfl), (inP (List.mem_of_getElem? (i := 160) rfl) rfl)⟩
def M_X11_clash : MD := (⟨"PlanningHouse", "clash", "(I)I"⟩, prog_1_method_41_code, 3, (some .int))
theorem mk_X11_clash : MK M_X11_clash 1 := ⟨(inT6 (List.mem_of_getElem? (i := 212) rfl) rfl), (inT1 (List.mem_of_getElem? (i := 1) rfl) rfl), ⟨by decide, by decide, by decide +kernel⟩, by decide, by decide⟩
theorem mv_X11_clash : MV M_X11_clash := ⟨(inT6 (List.mem_of_getElem? (i := 210) rfl) rfl), (inT6 (List.mem_of_getElem? (i := 211) rfl) rfl)⟩
def M_X1_narrowed : MD := (⟨"PlanningHouse$Hard", "narrowed", "(LPlanningHouse$Problem;)I"⟩, prog_3_method_8_code, 6, (some .int))
theorem mk_X1_narrowed : MK M_X1_narrowed 1 := ⟨(inT6 (List.mem_of_getElem? (i := 216) rfl) rfl), (inT1 (List.mem_of_getElem? (i := 5) rfl) rfl), ⟨by decide, by decide, by decide +kernel⟩, by decide, by decide⟩
theorem mv_X1_narrowed : MV M_X1_narrowed := ⟨(inT6 (List.mem_of_getElem? (i := 214) rfl) rfl), (inT6 (List.mem_of_getElem? (i := 215) rfl) rfl)⟩
def M_X12_clash : MD := (⟨"PlanningHouseModel", "clash", "(I)I"⟩, prog_14_method_136_code, 5, (some .int))
theorem mk_X12_clash : MK M_X12_clash 1 := ⟨(inT11 (List.mem_of_getElem? (i := 223) rfl) rfl), (inT1 (List.mem_of_getElem? (i := 9) rfl) rfl), ⟨by decide, by decide, by decide +kernel⟩, by decide, by decide⟩
theorem mv_X12_clash : MV M_X12_clash := ⟨(inT11 (List.mem_of_getElem? (i := 221) rfl) rfl), (inT11 (List.mem_of_getElem? (i := 222) rfl) rfl)⟩
def M_X11_near : MD := (⟨"PlanningHouse", "near", "(IZ)I"⟩, prog_1_method_40_code, 8, (some .int))
theorem mk_X11_near : MK M_X11_near 2 := ⟨(inT6 (List.mem_of_getElem? (i := 203) rfl) rfl), (inT1 (List.mem_of_getElem? (i := 1) rfl) rfl), ⟨by decide, by decide, by decide +kernel⟩, by decide, by decide⟩
theorem mv_X11_near : MV M_X11_near := ⟨(inT6 (List.mem_of_getElem? (i := 201) rfl) rfl), (inT6 (List.mem_of_getElem? (i := 202) rfl) rfl)⟩
def M_X3_costTo : MD := (⟨"PlanningHouse$Problem", "costTo", "(I)I"⟩, prog_5_method_9_code, 4, (some .int))
theorem mk_X3_costTo : MK M_X3_costTo 1 := ⟨(inT6 (List.mem_of_getElem? (i := 207) rfl) rfl), (inT1 (List.mem_of_getElem? (i := 13) rfl) rfl), ⟨by decide, by decide, by decide +kernel⟩, by decide, by decide⟩
theorem mv_X3_costTo : MV M_X3_costTo := ⟨(inT6 (List.mem_of_getElem? (i := 205) rfl) rfl), (inT6 (List.mem_of_getElem? (i := 206) rfl) rfl)⟩
def M_X12_near : MD := (⟨"PlanningHouseModel", "near", "(IZ)I"⟩, prog_14_method_132_code, 9, (some .int))
theorem mk_X12_near : MK M_X12_near 2 := ⟨(inT11 (List.mem_of_getElem? (i := 219) rfl) rfl), (inT1 (List.mem_of_getElem? (i := 9) rfl) rfl), ⟨by decide, by decide, by decide +kernel⟩, by decide, by decide⟩
theorem mv_X12_near : MV M_X12_near := ⟨(inT11 (List.mem_of_getElem? (i := 217) rfl) rfl), (inT11 (List.mem_of_getElem? (i := 218) rfl) rfl)⟩
def M_X11_frontPlan : MD := (⟨"PlanningHouse", "frontPlan", "(II)Z"⟩, prog_1_method_39_code, 4, (some .boolean))
theorem mk_X11_frontPlan : MK M_X11_frontPlan 2 := ⟨(inT6 (List.mem_of_getElem? (i := 199) rfl) rfl), (inT1 (List.mem_of_getElem? (i := 1) rfl) rfl), ⟨by decide, by decide, by decide +kernel⟩, by decide, by decide⟩
theorem mv_X11_frontPlan : MV M_X11_frontPlan := ⟨(inT6 (List.mem_of_getElem? (i := 197) rfl) rfl), (inT6 (List.mem_of_getElem? (i := 198) rfl) rfl)⟩
def M_X9_walkFront : MD := (⟨"PlanningHouse$Table", "walkFront", "(LPlanningHouse$Problem;I)I"⟩, prog_11_method_12_code, 10, (some .int))
theorem mk_X9_walkFront : MK M_X9_walkFront 2 := ⟨(inT6 (List.mem_of_getElem? (i := 174) rfl) rfl), (inT1 (List.mem_of_getElem? (i := 16) rfl) rfl), ⟨by decide, by decide, by decide +kernel⟩, by decide, by decide⟩
theorem mv_X9_walkFront : MV M_X9_walkFront := ⟨(inT6 (List.mem_of_getElem? (i := 172) rfl) rfl), (inT6 (List.mem_of_getElem? (i := 173) rfl) rfl)⟩
def M_X12_frontPlan : MD := (⟨"PlanningHouseModel", "frontPlan", "(II)Z"⟩, prog_14_method_131_code, 4, (some .boolean))
theorem mk_X12_frontPlan : MK M_X12_frontPlan 2 := ⟨(inT11 (List.mem_of_getElem? (i := 215) rfl) rfl), (inT1 (List.mem_of_getElem? (i := 9) rfl) rfl), ⟨by decide, by decide, by decide +kernel⟩, by decide, by decide⟩
theorem mv_X12_frontPlan : MV M_X12_frontPlan := ⟨(inT11 (List.mem_of_getElem? (i := 213) rfl) rfl), (inT11 (List.mem_of_getElem? (i := 214) rfl) rfl)⟩
def M_X12_findPair : MD := (⟨"PlanningHouseModel", "findPair", "(II)Z"⟩, prog_14_method_127_code, 5, (some .boolean))
theorem mk_X12_findPair : MK M_X12_findPair 2 := ⟨(inT11 (List.mem_of_getElem? (i := 207) rfl) rfl), (inT1 (List.mem_of_getElem? (i := 9) rfl) rfl), ⟨by decide, by decide, by decide +kernel⟩, by decide, by decide⟩
theorem mv_X12_findPair : MV M_X12_findPair := ⟨(inT11 (List.mem_of_getElem? (i := 206) rfl) rfl), (inP (List.mem_of_getElem? (i := 157) rfl) rfl)⟩
def M_X12_nextPair : MD := (⟨"PlanningHouseModel", "nextPair", "(IZJ)Z"⟩, prog_14_method_126_code, 11, (some .boolean))
theorem mk_X12_nextPair : MK M_X12_nextPair 3 := ⟨(inT11 (List.mem_of_getElem? (i := 199) rfl) rfl), (inT1 (List.mem_of_getElem? (i := 9) rfl) rfl), ⟨by decide, by decide, by decide +kernel⟩, by decide, by decide⟩
theorem mv_X12_nextPair : MV M_X12_nextPair := ⟨(inT11 (List.mem_of_getElem? (i := 198) rfl) rfl), (inP (List.mem_of_getElem? (i := 156) rfl) rfl)⟩
def M_X11_frontAt : MD := (⟨"PlanningHouse", "frontAt", "(III)J"⟩, prog_1_method_38_code, 5, (some .long))
theorem mk_X11_frontAt : MK M_X11_frontAt 3 := ⟨(inT6 (List.mem_of_getElem? (i := 195) rfl) rfl), (inT1 (List.mem_of_getElem? (i := 1) rfl) rfl), ⟨by decide, by decide, by decide +kernel⟩, by decide, by decide⟩
theorem mv_X11_frontAt : MV M_X11_frontAt := ⟨(inT6 (List.mem_of_getElem? (i := 193) rfl) rfl), (inT6 (List.mem_of_getElem? (i := 194) rfl) rfl)⟩
def M_X12_frontAt : MD := (⟨"PlanningHouseModel", "frontAt", "(III)J"⟩, prog_14_method_130_code, 7, (some .long))
theorem mk_X12_frontAt : MK M_X12_frontAt 3 := ⟨(inT11 (List.mem_of_getElem? (i := 203) rfl) rfl), (inT1 (List.mem_of_getElem? (i := 9) rfl) rfl), ⟨by decide, by decide, by decide +kernel⟩, by decide, by decide⟩
theorem mv_X12_frontAt : MV M_X12_frontAt := ⟨(inT11 (List.mem_of_getElem? (i := 201) rfl) rfl), (inT11 (List.mem_of_getElem? (i := 202) rfl) rfl)⟩
def M_X11_front : MD := (⟨"PlanningHouse", "front", "(I)I"⟩, prog_1_method_37_code, 3, (some .int))
theorem mk_X11_front : MK M_X11_front 1 := ⟨(inT6 (List.mem_of_getElem? (i := 170) rfl) rfl), (inT1 (List.mem_of_getElem? (i := 1) rfl) rfl), ⟨by decide, by decide, by decide +kernel⟩, by decide, by decide⟩
theorem mv_X11_front : MV M_X11_front := ⟨(inT6 (List.mem_of_getElem? (i := 168) rfl) rfl), (inT6 (List.mem_of_getElem? (i := 169) rfl) rfl)⟩
def M_X12_front : MD := (⟨"PlanningHouseModel", "front", "(I)I"⟩, prog_14_method_128_code, 4, (some .int))
theorem mk_X12_front : MK M_X12_front 1 := ⟨(inT11 (List.mem_of_getElem? (i := 195) rfl) rfl), (inT1 (List.mem_of_getElem? (i := 9) rfl) rfl), ⟨by decide, by decide, by decide +kernel⟩, by decide, by decide⟩
theorem mv_X12_front : MV M_X12_front := ⟨(inT11 (List.mem_of_getElem? (i := 193) rfl) rfl), (inT11 (List.mem_of_getElem? (i := 194) rfl) rfl)⟩
def M_X11_mend : MD := (⟨"PlanningHouse", "mend", "(II)I"⟩, prog_1_method_36_code, 4, (some .int))
theorem mk_X11_mend : MK M_X11_mend 2 := ⟨(inT6 (List.mem_of_getElem? (i := 164) rfl) rfl), (inT1 (List.mem_of_getElem? (i := 1) rfl) rfl), ⟨by decide, by decide, by decide +kernel⟩, by decide, by decide⟩
theorem mv_X11_mend : MV M_X11_mend := ⟨(inT6 (List.mem_of_getElem? (i := 162) rfl) rfl), (inT6 (List.mem_of_getElem? (i := 163) rfl) rfl)⟩
def M_X12_mend : MD := (⟨"PlanningHouseModel", "mend", "(II)I"⟩, prog_14_method_125_code, 7, (some .int))
theorem mk_X12_mend : MK M_X12_mend 2 := ⟨(inT11 (List.mem_of_getElem? (i := 191) rfl) rfl), (inT1 (List.mem_of_getElem? (i := 9) rfl) rfl), ⟨by decide, by decide, by decide +kernel⟩, by decide, by decide⟩
theorem mv_X12_mend : MV M_X12_mend := ⟨(inT11 (List.mem_of_getElem? (i := 189) rfl) rfl), (inT11 (List.mem_of_getElem? (i := 190) rfl) rfl)⟩
def M_X11_choices : MD := (⟨"PlanningHouse", "choices", "(II)I"⟩, prog_1_method_35_code, 4, (some .int))
theorem mk_X11_choices : MK M_X11_choices 2 := ⟨(inT6 (List.mem_of_getElem? (i := 155) rfl) rfl), (inT1 (List.mem_of_getElem? (i := 1) rfl) rfl), ⟨by decide, by decide, by decide +kernel⟩, by decide, by decide⟩
theorem mv_X11_choices : MV M_X11_choices := ⟨(inT6 (List.mem_of_getElem? (i := 153) rfl) rfl), (inT6 (List.mem_of_getElem? (i := 154) rfl) rfl)⟩
def M_X7_isVar : MD := (⟨"PlanningHouse$Space", "isVar", "(I)Z"⟩, prog_9_method_4_code, 2, (some .boolean))
theorem mk_X7_isVar : MK M_X7_isVar 1 := ⟨(inT5 (List.mem_of_getElem? (i := 90) rfl) rfl), (inT1 (List.mem_of_getElem? (i := 14) rfl) rfl), ⟨by decide, by decide, by decide +kernel⟩, by decide, by decide⟩
theorem mv_X7_isVar : MV M_X7_isVar := ⟨(inT5 (List.mem_of_getElem? (i := 88) rfl) rfl), (inT5 (List.mem_of_getElem? (i := 89) rfl) rfl)⟩
def M_X9_differentValues : MD := (⟨"PlanningHouse$Table", "differentValues", "(LPlanningHouse$Space;I)I"⟩, prog_11_method_10_code, 5, (some .int))
theorem mk_X9_differentValues : MK M_X9_differentValues 2 := ⟨(inT6 (List.mem_of_getElem? (i := 159) rfl) rfl), (inT1 (List.mem_of_getElem? (i := 16) rfl) rfl), ⟨by decide, by decide, by decide +kernel⟩, by decide, by decide⟩
theorem mv_X9_differentValues : MV M_X9_differentValues := ⟨(inT6 (List.mem_of_getElem? (i := 157) rfl) rfl), (inT6 (List.mem_of_getElem? (i := 158) rfl) rfl)⟩
def M_X12_choices : MD := (⟨"PlanningHouseModel", "choices", "(II)I"⟩, prog_14_method_124_code, 7, (some .int))
theorem mk_X12_choices : MK M_X12_choices 2 := ⟨(inT11 (List.mem_of_getElem? (i := 187) rfl) rfl), (inT1 (List.mem_of_getElem? (i := 9) rfl) rfl), ⟨by decide, by decide, by decide +kernel⟩, by decide, by decide⟩
theorem mv_X12_choices : MV M_X12_choices := ⟨(inT11 (List.mem_of_getElem? (i := 185) rfl) rfl), (inT11 (List.mem_of_getElem? (i := 186) rfl) rfl)⟩
def M_X11_has : MD := (⟨"PlanningHouse", "has", "(IIIZ)I"⟩, prog_1_method_34_code, 8, (some .int))
theorem mk_X11_has : MK M_X11_has 4 := ⟨(inT6 (List.mem_of_getElem? (i := 141) rfl) rfl), (inT1 (List.mem_of_getElem? (i := 1) rfl) rfl), ⟨by decide, by decide, by decide +kernel⟩, by decide, by decide⟩
theorem mv_X11_has : MV M_X11_has := ⟨(inT6 (List.mem_of_getElem? (i := 139) rfl) rfl), (inT6 (List.mem_of_getElem? (i := 140) rfl) rfl)⟩
def M_X12_has : MD := (⟨"PlanningHouseModel", "has", "(IIIZ)I"⟩, prog_14_method_123_code, 10, (some .int))
theorem mk_X12_has : MK M_X12_has 4 := ⟨(inT11 (List.mem_of_getElem? (i := 179) rfl) rfl), (inT1 (List.mem_of_getElem? (i := 9) rfl) rfl), ⟨by decide, by decide, by decide +kernel⟩, by decide, by decide⟩
theorem mv_X12_has : MV M_X12_has := ⟨(inT11 (List.mem_of_getElem? (i := 177) rfl) rfl), (inT11 (List.mem_of_getElem? (i := 178) rfl) rfl)⟩
def M_X11_feasibleAt : MD := (⟨"PlanningHouse", "feasibleAt", "(II)Z"⟩, prog_1_method_33_code, 4, (some .boolean))
theorem mk_X11_feasibleAt : MK M_X11_feasibleAt 2 := ⟨(inT6 (List.mem_of_getElem? (i := 137) rfl) rfl), (inT1 (List.mem_of_getElem? (i := 1) rfl) rfl), ⟨by decide, by decide, by decide +kernel⟩, by decide, by decide⟩
theorem mv_X11_feasibleAt : MV M_X11_feasibleAt := ⟨(inT6 (List.mem_of_getElem? (i := 135) rfl) rfl), (inT6 (List.mem_of_getElem? (i := 136) rfl) rfl)⟩
def M_X12_feasibleAt : MD := (⟨"PlanningHouseModel", "feasibleAt", "(II)Z"⟩, prog_14_method_121_code, 3, (some .boolean))
theorem mk_X12_feasibleAt : MK M_X12_feasibleAt 2 := ⟨(inT11 (List.mem_of_getElem? (i := 175) rfl) rfl), (inT1 (List.mem_of_getElem? (i := 9) rfl) rfl), ⟨by decide, by decide, by decide +kernel⟩, by decide, by decide⟩
theorem mv_X12_feasibleAt : MV M_X12_feasibleAt := ⟨(inT11 (List.mem_of_getElem? (i := 173) rfl) rfl), (inT11 (List.mem_of_getElem? (i := 174) rfl) rfl)⟩
def M_X12_planAt : MD := (⟨"PlanningHouseModel", "planAt", "(IIZ)Z"⟩, prog_14_method_118_code, 7, (some .boolean))
theorem mk_X12_planAt : MK M_X12_planAt 3 := ⟨(inT11 (List.mem_of_getElem? (i := 167) rfl) rfl), (inT1 (List.mem_of_getElem? (i := 9) rfl) rfl), ⟨by decide, by decide, by decide +kernel⟩, by decide, by decide⟩
theorem mv_X12_planAt : MV M_X12_planAt := ⟨(inT11 (List.mem_of_getElem? (i := 166) rfl) rfl), (inP (List.mem_of_getElem? (i := 154) rfl) rfl)⟩
def M_X11_feasibles : MD := (⟨"PlanningHouse", "feasibles", "(I)I"⟩, prog_1_method_32_code, 3, (some .int))
theorem mk_X11_feasibles : MK M_X11_feasibles 1 := ⟨(inT6 (List.mem_of_getElem? (i := 133) rfl) rfl), (inT1 (List.mem_of_getElem? (i := 1) rfl) rfl), ⟨by decide, by decide, by decide +kernel⟩, by decide, by decide⟩
theorem mv_X11_feasibles : MV M_X11_feasibles := ⟨(inT6 (List.mem_of_getElem? (i := 131) rfl) rfl), (inT6 (List.mem_of_getElem? (i := 132) rfl) rfl)⟩
def M_X12_feasibles : MD := (⟨"PlanningHouseModel", "feasibles", "(I)I"⟩, prog_14_method_120_code, 4, (some .int))
theorem mk_X12_feasibles : MK M_X12_feasibles 1 := ⟨(inT11 (List.mem_of_getElem? (i := 171) rfl) rfl), (inT1 (List.mem_of_getElem? (i := 9) rfl) rfl), ⟨by decide, by decide, by decide +kernel⟩, by decide, by decide⟩
theorem mv_X12_feasibles : MV M_X12_feasibles := ⟨(inT11 (List.mem_of_getElem? (i := 169) rfl) rfl), (inT11 (List.mem_of_getElem? (i := 170) rfl) rfl)⟩
def M_X11_bestAt : MD := (⟨"PlanningHouse", "bestAt", "(II)Z"⟩, prog_1_method_31_code, 4, (some .boolean))
theorem mk_X11_bestAt : MK M_X11_bestAt 2 := ⟨(inT6 (List.mem_of_getElem? (i := 129) rfl) rfl), (inT1 (List.mem_of_getElem? (i := 1) rfl) rfl), ⟨by decide, by decide, by decide +kernel⟩, by decide, by decide⟩
theorem mv_X11_bestAt : MV M_X11_bestAt := ⟨(inT6 (List.mem_of_getElem? (i := 127) rfl) rfl), (inT6 (List.mem_of_getElem? (i := 128) rfl) rfl)⟩
def M_X12_bestAt : MD := (⟨"PlanningHouseModel", "bestAt", "(II)Z"⟩, prog_14_method_119_code, 3, (some .boolean))
theorem mk_X12_bestAt : MK M_X12_bestAt 2 := ⟨(inT11 (List.mem_of_getElem? (i := 163) rfl) rfl), (inT1 (List.mem_of_getElem? (i := 9) rfl) rfl), ⟨by decide, by decide, by decide +kernel⟩, by decide, by decide⟩
theorem mv_X12_bestAt : MV M_X12_bestAt := ⟨(inT11 (List.mem_of_getElem? (i := 161) rfl) rfl), (inT11 (List.mem_of_getElem? (i := 162) rfl) rfl)⟩
def M_X11_bests : MD := (⟨"PlanningHouse", "bests", "(I)I"⟩, prog_1_method_30_code, 3, (some .int))
theorem mk_X11_bests : MK M_X11_bests 1 := ⟨(inT6 (List.mem_of_getElem? (i := 125) rfl) rfl), (inT1 (List.mem_of_getElem? (i := 1) rfl) rfl), ⟨by decide, by decide, by decide +kernel⟩, by decide, by decide⟩
theorem mv_X11_bests : MV M_X11_bests := ⟨(inT6 (List.mem_of_getElem? (i := 123) rfl) rfl), (inT6 (List.mem_of_getElem? (i := 124) rfl) rfl)⟩
def M_X12_bests : MD := (⟨"PlanningHouseModel", "bests", "(I)I"⟩, prog_14_method_117_code, 5, (some .int))
theorem mk_X12_bests : MK M_X12_bests 1 := ⟨(inT11 (List.mem_of_getElem? (i := 155) rfl) rfl), (inT1 (List.mem_of_getElem? (i := 9) rfl) rfl), ⟨by decide, by decide, by decide +kernel⟩, by decide, by decide⟩
theorem mv_X12_bests : MV M_X12_bests := ⟨(inT11 (List.mem_of_getElem? (i := 153) rfl) rfl), (inT11 (List.mem_of_getElem? (i := 154) rfl) rfl)⟩
def M_X11_best : MD := (⟨"PlanningHouse", "best", "(II)J"⟩, prog_1_method_29_code, 4, (some .long))
theorem mk_X11_best : MK M_X11_best 2 := ⟨(inT6 (List.mem_of_getElem? (i := 120) rfl) rfl), (inT1 (List.mem_of_getElem? (i := 1) rfl) rfl), ⟨by decide, by decide, by decide +kernel⟩, by decide, by decide⟩
theorem mv_X11_best : MV M_X11_best := ⟨(inT6 (List.mem_of_getElem? (i := 118) rfl) rfl), (inT6 (List.mem_of_getElem? (i := 119) rfl) rfl)⟩
def M_X12_best : MD := (⟨"PlanningHouseModel", "best", "(II)J"⟩, prog_14_method_116_code, 4, (some .long))
theorem mk_X12_best : MK M_X12_best 2 := ⟨(inT11 (List.mem_of_getElem? (i := 151) rfl) rfl), (inT1 (List.mem_of_getElem? (i := 9) rfl) rfl), ⟨by decide, by decide, by decide +kernel⟩, by decide, by decide⟩
theorem mv_X12_best : MV M_X12_best := ⟨(inT11 (List.mem_of_getElem? (i := 149) rfl) rfl), (inT11 (List.mem_of_getElem? (i := 150) rfl) rfl)⟩
def M_X11_solve : MD := (⟨"PlanningHouse", "solve", "(I)I"⟩, prog_1_method_28_code, 3, (some .int))
theorem mk_X11_solve : MK M_X11_solve 1 := ⟨(inT6 (List.mem_of_getElem? (i := 89) rfl) rfl), (inT1 (List.mem_of_getElem? (i := 1) rfl) rfl), ⟨by decide, by decide, by decide +kernel⟩, by decide, by decide⟩
theorem mv_X11_solve : MV M_X11_solve := ⟨(inT6 (List.mem_of_getElem? (i := 87) rfl) rfl), (inT6 (List.mem_of_getElem? (i := 88) rfl) rfl)⟩
def M_X12_solve : MD := (⟨"PlanningHouseModel", "solve", "(I)I"⟩, prog_14_method_115_code, 3, (some .int))
theorem mk_X12_solve : MK M_X12_solve 1 := ⟨(inT11 (List.mem_of_getElem? (i := 131) rfl) rfl), (inT1 (List.mem_of_getElem? (i := 9) rfl) rfl), ⟨by decide, by decide, by decide +kernel⟩, by decide, by decide⟩
theorem mv_X12_solve : MV M_X12_solve := ⟨(inT11 (List.mem_of_getElem? (i := 129) rfl) rfl), (inT11 (List.mem_of_getElem? (i := 130) rfl) rfl)⟩
def M_X11_hopeless : MD := (⟨"PlanningHouse", "hopeless", "(I)I"⟩, prog_1_method_27_code, 3, (some .int))
theorem mk_X11_hopeless : MK M_X11_hopeless 1 := ⟨(inT6 (List.mem_of_getElem? (i := 77) rfl) rfl), (inT1 (List.mem_of_getElem? (i := 1) rfl) rfl), ⟨by decide, by decide, by decide +kernel⟩, by decide, by decide⟩
theorem mv_X11_hopeless : MV M_X11_hopeless := ⟨(inT6 (List.mem_of_getElem? (i := 75) rfl) rfl), (inT6 (List.mem_of_getElem? (i := 76) rfl) rfl)⟩
def M_X1_alwaysBroken : MD := (⟨"PlanningHouse$Hard", "alwaysBroken", "(LPlanningHouse$Problem;)I"⟩, prog_3_method_7_code, 5, (some .int))
theorem mk_X1_alwaysBroken : MK M_X1_alwaysBroken 1 := ⟨(inT6 (List.mem_of_getElem? (i := 81) rfl) rfl), (inT1 (List.mem_of_getElem? (i := 5) rfl) rfl), ⟨by decide, by decide, by decide +kernel⟩, by decide, by decide⟩
theorem mv_X1_alwaysBroken : MV M_X1_alwaysBroken := ⟨(inT6 (List.mem_of_getElem? (i := 79) rfl) rfl), (inT6 (List.mem_of_getElem? (i := 80) rfl) rfl)⟩
def M_X12_hopeless : MD := (⟨"PlanningHouseModel", "hopeless", "(I)I"⟩, prog_14_method_114_code, 5, (some .int))
theorem mk_X12_hopeless : MK M_X12_hopeless 1 := ⟨(inT11 (List.mem_of_getElem? (i := 123) rfl) rfl), (inT1 (List.mem_of_getElem? (i := 9) rfl) rfl), ⟨by decide, by decide, by decide +kernel⟩, by decide, by decide⟩
theorem mv_X12_hopeless : MV M_X12_hopeless := ⟨(inT11 (List.mem_of_getElem? (i := 121) rfl) rfl), (inT11 (List.mem_of_getElem? (i := 122) rfl) rfl)⟩
def M_X11_isLeft : MD := (⟨"PlanningHouse", "isLeft", "(III)Z"⟩, prog_1_method_26_code, 5, (some .boolean))
theorem mk_X11_isLeft : MK M_X11_isLeft 3 := ⟨(inT6 (List.mem_of_getElem? (i := 73) rfl) rfl), (inT1 (List.mem_of_getElem? (i := 1) rfl) rfl), ⟨by decide, by decide, by decide +kernel⟩, by decide, by decide⟩
theorem mv_X11_isLeft : MV M_X11_isLeft := ⟨(inT6 (List.mem_of_getElem? (i := 71) rfl) rfl), (inT6 (List.mem_of_getElem? (i := 72) rfl) rfl)⟩
def M_X1_workOut : MD := (⟨"PlanningHouse$Hard", "workOut", "(LPlanningHouse$Problem;)I"⟩, prog_3_method_2_code, 5, (some .int))
theorem mk_X1_workOut : MK M_X1_workOut 1 := ⟨(inT6 (List.mem_of_getElem? (i := 38) rfl) rfl), (inT1 (List.mem_of_getElem? (i := 5) rfl) rfl), ⟨by decide, by decide, by decide +kernel⟩, by decide, by decide⟩
theorem mv_X1_workOut : MV M_X1_workOut := ⟨(inT6 (List.mem_of_getElem? (i := 36) rfl) rfl), (inT6 (List.mem_of_getElem? (i := 37) rfl) rfl)⟩
def M_X12_isLeft : MD := (⟨"PlanningHouseModel", "isLeft", "(III)Z"⟩, prog_14_method_113_code, 4, (some .boolean))
theorem mk_X12_isLeft : MK M_X12_isLeft 3 := ⟨(inT11 (List.mem_of_getElem? (i := 119) rfl) rfl), (inT1 (List.mem_of_getElem? (i := 9) rfl) rfl), ⟨by decide, by decide, by decide +kernel⟩, by decide, by decide⟩
theorem mv_X12_isLeft : MV M_X12_isLeft := ⟨(inT11 (List.mem_of_getElem? (i := 117) rfl) rfl), (inT11 (List.mem_of_getElem? (i := 118) rfl) rfl)⟩
def M_X12_findLeft : MD := (⟨"PlanningHouseModel", "findLeft", "(I)V"⟩, prog_14_method_111_code, 6, none)
theorem mk_X12_findLeft : MK M_X12_findLeft 1 := ⟨(inT11 (List.mem_of_getElem? (i := 111) rfl) rfl), (inT1 (List.mem_of_getElem? (i := 9) rfl) rfl), ⟨by decide, by decide, by decide +kernel⟩, by decide, by decide⟩
theorem mv_X12_findLeft : MV M_X12_findLeft := ⟨(inT11 (List.mem_of_getElem? (i := 110) rfl) rfl), (inP (List.mem_of_getElem? (i := 146) rfl) rfl)⟩
def M_X11_reach : MD := (⟨"PlanningHouse", "reach", "(I)I"⟩, prog_1_method_25_code, 3, (some .int))
theorem mk_X11_reach : MK M_X11_reach 1 := ⟨(inT6 (List.mem_of_getElem? (i := 30) rfl) rfl), (inT1 (List.mem_of_getElem? (i := 1) rfl) rfl), ⟨by decide, by decide, by decide +kernel⟩, by decide, by decide⟩
theorem mv_X11_reach : MV M_X11_reach := ⟨(inT6 (List.mem_of_getElem? (i := 28) rfl) rfl), (inT6 (List.mem_of_getElem? (i := 29) rfl) rfl)⟩
def M_X12_reach : MD := (⟨"PlanningHouseModel", "reach", "(I)I"⟩, prog_14_method_112_code, 5, (some .int))
theorem mk_X12_reach : MK M_X12_reach 1 := ⟨(inT11 (List.mem_of_getElem? (i := 107) rfl) rfl), (inT1 (List.mem_of_getElem? (i := 9) rfl) rfl), ⟨by decide, by decide, by decide +kernel⟩, by decide, by decide⟩
theorem mv_X12_reach : MV M_X12_reach := ⟨(inT11 (List.mem_of_getElem? (i := 105) rfl) rfl), (inT11 (List.mem_of_getElem? (i := 106) rfl) rfl)⟩
def M_X11_feasible : MD := (⟨"PlanningHouse", "feasible", "(I)Z"⟩, prog_1_method_24_code, 3, (some .boolean))
theorem mk_X11_feasible : MK M_X11_feasible 1 := ⟨(inT6 (List.mem_of_getElem? (i := 26) rfl) rfl), (inT1 (List.mem_of_getElem? (i := 1) rfl) rfl), ⟨by decide, by decide, by decide +kernel⟩, by decide, by decide⟩
theorem mv_X11_feasible : MV M_X11_feasible := ⟨(inT6 (List.mem_of_getElem? (i := 24) rfl) rfl), (inT6 (List.mem_of_getElem? (i := 25) rfl) rfl)⟩
def M_X12_feasible : MD := (⟨"PlanningHouseModel", "feasible", "(I)Z"⟩, prog_14_method_109_code, 2, (some .boolean))
theorem mk_X12_feasible : MK M_X12_feasible 1 := ⟨(inT11 (List.mem_of_getElem? (i := 99) rfl) rfl), (inT1 (List.mem_of_getElem? (i := 9) rfl) rfl), ⟨by decide, by decide, by decide +kernel⟩, by decide, by decide⟩
theorem mv_X12_feasible : MV M_X12_feasible := ⟨(inT11 (List.mem_of_getElem? (i := 97) rfl) rfl), (inT11 (List.mem_of_getElem? (i := 98) rfl) rfl)⟩
def M_X11_score : MD := (⟨"PlanningHouse", "score", "(II)J"⟩, prog_1_method_23_code, 4, (some .long))
theorem mk_X11_score : MK M_X11_score 2 := ⟨(inT6 (List.mem_of_getElem? (i := 18) rfl) rfl), (inT1 (List.mem_of_getElem? (i := 1) rfl) rfl), ⟨by decide, by decide, by decide +kernel⟩, by decide, by decide⟩
theorem mv_X11_score : MV M_X11_score := ⟨(inT6 (List.mem_of_getElem? (i := 16) rfl) rfl), (inT6 (List.mem_of_getElem? (i := 17) rfl) rfl)⟩
def M_X12_score : MD := (⟨"PlanningHouseModel", "score", "(II)J"⟩, prog_14_method_108_code, 3, (some .long))
theorem mk_X12_score : MK M_X12_score 2 := ⟨(inT11 (List.mem_of_getElem? (i := 92) rfl) rfl), (inT1 (List.mem_of_getElem? (i := 9) rfl) rfl), ⟨by decide, by decide, by decide +kernel⟩, by decide, by decide⟩
theorem mv_X12_score : MV M_X12_score := ⟨(inT11 (List.mem_of_getElem? (i := 90) rfl) rfl), (inT11 (List.mem_of_getElem? (i := 91) rfl) rfl)⟩
def M_X11_aim : MD := (⟨"PlanningHouse", "aim", "(II)J"⟩, prog_1_method_22_code, 4, (some .long))
theorem mk_X11_aim : MK M_X11_aim 2 := ⟨(inT6 (List.mem_of_getElem? (i := 14) rfl) rfl), (inT1 (List.mem_of_getElem? (i := 1) rfl) rfl), ⟨by decide, by decide, by decide +kernel⟩, by decide, by decide⟩
theorem mv_X11_aim : MV M_X11_aim := ⟨(inT6 (List.mem_of_getElem? (i := 12) rfl) rfl), (inT6 (List.mem_of_getElem? (i := 13) rfl) rfl)⟩
def M_X12_aim : MD := (⟨"PlanningHouseModel", "aim", "(II)J"⟩, prog_14_method_107_code, 3, (some .long))
theorem mk_X12_aim : MK M_X12_aim 2 := ⟨(inT11 (List.mem_of_getElem? (i := 88) rfl) rfl), (inT1 (List.mem_of_getElem? (i := 9) rfl) rfl), ⟨by decide, by decide, by decide +kernel⟩, by decide, by decide⟩
theorem mv_X12_aim : MV M_X12_aim := ⟨(inT11 (List.mem_of_getElem? (i := 86) rfl) rfl), (inT11 (List.mem_of_getElem? (i := 87) rfl) rfl)⟩
def M_X11_broken : MD := (⟨"PlanningHouse", "broken", "(II)I"⟩, prog_1_method_21_code, 4, (some .int))
theorem mk_X11_broken : MK M_X11_broken 2 := ⟨(inT6 (List.mem_of_getElem? (i := 8) rfl) rfl), (inT1 (List.mem_of_getElem? (i := 1) rfl) rfl), ⟨by decide, by decide, by decide +kernel⟩, by decide, by decide⟩
theorem mv_X11_broken : MV M_X11_broken := ⟨(inT6 (List.mem_of_getElem? (i := 6) rfl) rfl), (inT6 (List.mem_of_getElem? (i := 7) rfl) rfl)⟩
def M_X12_broken : MD := (⟨"PlanningHouseModel", "broken", "(II)I"⟩, prog_14_method_106_code, 3, (some .int))
theorem mk_X12_broken : MK M_X12_broken 2 := ⟨(inT11 (List.mem_of_getElem? (i := 80) rfl) rfl), (inT1 (List.mem_of_getElem? (i := 9) rfl) rfl), ⟨by decide, by decide, by decide +kernel⟩, by decide, by decide⟩
theorem mv_X12_broken : MV M_X12_broken := ⟨(inT11 (List.mem_of_getElem? (i := 78) rfl) rfl), (inT11 (List.mem_of_getElem? (i := 79) rfl) rfl)⟩
def M_X11_weigh : MD := (⟨"PlanningHouse", "weigh", "(III)I"⟩, prog_1_method_20_code, 6, (some .int))
theorem mk_X11_weigh : MK M_X11_weigh 3 := ⟨(inT6 (List.mem_of_getElem? (i := 4) rfl) rfl), (inT1 (List.mem_of_getElem? (i := 1) rfl) rfl), ⟨by decide, by decide, by decide +kernel⟩, by decide, by decide⟩
theorem mv_X11_weigh : MV M_X11_weigh := ⟨(inT6 (List.mem_of_getElem? (i := 2) rfl) rfl), (inT6 (List.mem_of_getElem? (i := 3) rfl) rfl)⟩
def M_X12_weigh : MD := (⟨"PlanningHouseModel", "weigh", "(III)I"⟩, prog_14_method_105_code, 5, (some .int))
theorem mk_X12_weigh : MK M_X12_weigh 3 := ⟨(inT11 (List.mem_of_getElem? (i := 76) rfl) rfl), (inT1 (List.mem_of_getElem? (i := 9) rfl) rfl), ⟨by decide, by decide, by decide +kernel⟩, by decide, by decide⟩
theorem mv_X12_weigh : MV M_X12_weigh := ⟨(inT11 (List.mem_of_getElem? (i := 74) rfl) rfl), (inT11 (List.mem_of_getElem? (i := 75) rfl) rfl)⟩
def M_X11_pin : MD := (⟨"PlanningHouse", "pin", "(IIZ)Z"⟩, prog_1_method_19_code, 6, (some .boolean))
theorem mk_X11_pin : MK M_X11_pin 3 := ⟨(inT6 (List.mem_of_getElem? (i := 0) rfl) rfl), (inT1 (List.mem_of_getElem? (i := 1) rfl) rfl), ⟨by decide, by decide, by decide +kernel⟩, by decide, by decide⟩
theorem mv_X11_pin : MV M_X11_pin := ⟨(inT5 (List.mem_of_getElem? (i := 238) rfl) rfl), (inT5 (List.mem_of_getElem? (i := 239) rfl) rfl)⟩
def M_X12_pin : MD := (⟨"PlanningHouseModel", "pin", "(IIZ)Z"⟩, prog_14_method_104_code, 5, (some .boolean))
theorem mk_X12_pin : MK M_X12_pin 3 := ⟨(inT11 (List.mem_of_getElem? (i := 72) rfl) rfl), (inT1 (List.mem_of_getElem? (i := 9) rfl) rfl), ⟨by decide, by decide, by decide +kernel⟩, by decide, by decide⟩
theorem mv_X12_pin : MV M_X12_pin := ⟨(inT11 (List.mem_of_getElem? (i := 70) rfl) rfl), (inT11 (List.mem_of_getElem? (i := 71) rfl) rfl)⟩
def M_X11_put : MD := (⟨"PlanningHouse", "put", "(III)Z"⟩, prog_1_method_18_code, 6, (some .boolean))
theorem mk_X11_put : MK M_X11_put 3 := ⟨(inT5 (List.mem_of_getElem? (i := 224) rfl) rfl), (inT1 (List.mem_of_getElem? (i := 1) rfl) rfl), ⟨by decide, by decide, by decide +kernel⟩, by decide, by decide⟩
theorem mv_X11_put : MV M_X11_put := ⟨(inT5 (List.mem_of_getElem? (i := 222) rfl) rfl), (inT5 (List.mem_of_getElem? (i := 223) rfl) rfl)⟩
def M_X12_put : MD := (⟨"PlanningHouseModel", "put", "(III)Z"⟩, prog_14_method_103_code, 4, (some .boolean))
theorem mk_X12_put : MK M_X12_put 3 := ⟨(inT11 (List.mem_of_getElem? (i := 64) rfl) rfl), (inT1 (List.mem_of_getElem? (i := 9) rfl) rfl), ⟨by decide, by decide, by decide +kernel⟩, by decide, by decide⟩
theorem mv_X12_put : MV M_X12_put := ⟨(inT11 (List.mem_of_getElem? (i := 62) rfl) rfl), (inT11 (List.mem_of_getElem? (i := 63) rfl) rfl)⟩
def M_X11_value : MD := (⟨"PlanningHouse", "value", "(II)J"⟩, prog_1_method_17_code, 4, (some .long))
theorem mk_X11_value : MK M_X11_value 2 := ⟨(inT5 (List.mem_of_getElem? (i := 219) rfl) rfl), (inT1 (List.mem_of_getElem? (i := 1) rfl) rfl), ⟨by decide, by decide, by decide +kernel⟩, by decide, by decide⟩
theorem mv_X11_value : MV M_X11_value := ⟨(inT5 (List.mem_of_getElem? (i := 217) rfl) rfl), (inT5 (List.mem_of_getElem? (i := 218) rfl) rfl)⟩
def M_X12_value : MD := (⟨"PlanningHouseModel", "value", "(II)J"⟩, prog_14_method_101_code, 3, (some .long))
theorem mk_X12_value : MK M_X12_value 2 := ⟨(inT11 (List.mem_of_getElem? (i := 60) rfl) rfl), (inT1 (List.mem_of_getElem? (i := 9) rfl) rfl), ⟨by decide, by decide, by decide +kernel⟩, by decide, by decide⟩
theorem mv_X12_value : MV M_X12_value := ⟨(inT11 (List.mem_of_getElem? (i := 58) rfl) rfl), (inT11 (List.mem_of_getElem? (i := 59) rfl) rfl)⟩
def M_X11_change : MD := (⟨"PlanningHouse", "change", "(III)Z"⟩, prog_1_method_16_code, 5, (some .boolean))
theorem mk_X11_change : MK M_X11_change 3 := ⟨(inT5 (List.mem_of_getElem? (i := 215) rfl) rfl), (inT1 (List.mem_of_getElem? (i := 1) rfl) rfl), ⟨by decide, by decide, by decide +kernel⟩, by decide, by decide⟩
theorem mv_X11_change : MV M_X11_change := ⟨(inT5 (List.mem_of_getElem? (i := 213) rfl) rfl), (inT5 (List.mem_of_getElem? (i := 214) rfl) rfl)⟩
def M_X12_change : MD := (⟨"PlanningHouseModel", "change", "(III)Z"⟩, prog_14_method_100_code, 4, (some .boolean))
theorem mk_X12_change : MK M_X12_change 3 := ⟨(inT11 (List.mem_of_getElem? (i := 56) rfl) rfl), (inT1 (List.mem_of_getElem? (i := 9) rfl) rfl), ⟨by decide, by decide, by decide +kernel⟩, by decide, by decide⟩
theorem mv_X12_change : MV M_X12_change := ⟨(inT11 (List.mem_of_getElem? (i := 54) rfl) rfl), (inT11 (List.mem_of_getElem? (i := 55) rfl) rfl)⟩
def M_X11_fact : MD := (⟨"PlanningHouse", "fact", "(II)J"⟩, prog_1_method_15_code, 4, (some .long))
theorem mk_X11_fact : MK M_X11_fact 2 := ⟨(inT5 (List.mem_of_getElem? (i := 207) rfl) rfl), (inT1 (List.mem_of_getElem? (i := 1) rfl) rfl), ⟨by decide, by decide, by decide +kernel⟩, by decide, by decide⟩
theorem mv_X11_fact : MV M_X11_fact := ⟨(inT5 (List.mem_of_getElem? (i := 205) rfl) rfl), (inT5 (List.mem_of_getElem? (i := 206) rfl) rfl)⟩
def M_X12_fact : MD := (⟨"PlanningHouseModel", "fact", "(II)J"⟩, prog_14_method_99_code, 3, (some .long))
theorem mk_X12_fact : MK M_X12_fact 2 := ⟨(inT11 (List.mem_of_getElem? (i := 48) rfl) rfl), (inT1 (List.mem_of_getElem? (i := 9) rfl) rfl), ⟨by decide, by decide, by decide +kernel⟩, by decide, by decide⟩
theorem mv_X12_fact : MV M_X12_fact := ⟨(inT11 (List.mem_of_getElem? (i := 46) rfl) rfl), (inT11 (List.mem_of_getElem? (i := 47) rfl) rfl)⟩
def M_X11_rule : MD := (⟨"PlanningHouse", "rule", "(III)I"⟩, prog_1_method_14_code, 5, (some .int))
theorem mk_X11_rule : MK M_X11_rule 3 := ⟨(inT5 (List.mem_of_getElem? (i := 95) rfl) rfl), (inT1 (List.mem_of_getElem? (i := 1) rfl) rfl), ⟨by decide, by decide, by decide +kernel⟩, by decide, by decide⟩
theorem mv_X11_rule : MV M_X11_rule := ⟨(inT5 (List.mem_of_getElem? (i := 93) rfl) rfl), (inT5 (List.mem_of_getElem? (i := 94) rfl) rfl)⟩
def M_X12_rule : MD := (⟨"PlanningHouseModel", "rule", "(III)I"⟩, prog_14_method_98_code, 6, (some .int))
theorem mk_X12_rule : MK M_X12_rule 3 := ⟨(inT10 (List.mem_of_getElem? (i := 175) rfl) rfl), (inT1 (List.mem_of_getElem? (i := 9) rfl) rfl), ⟨by decide, by decide, by decide +kernel⟩, by decide, by decide⟩
theorem mv_X12_rule : MV M_X12_rule := ⟨(inT10 (List.mem_of_getElem? (i := 173) rfl) rfl), (inT10 (List.mem_of_getElem? (i := 174) rfl) rfl)⟩
def M_X11_range : MD := (⟨"PlanningHouse", "range", "(III)J"⟩, prog_1_method_13_code, 5, (some .long))
theorem mk_X11_range : MK M_X11_range 3 := ⟨(inT5 (List.mem_of_getElem? (i := 86) rfl) rfl), (inT1 (List.mem_of_getElem? (i := 1) rfl) rfl), ⟨by decide, by decide, by decide +kernel⟩, by decide, by decide⟩
theorem mv_X11_range : MV M_X11_range := ⟨(inT5 (List.mem_of_getElem? (i := 84) rfl) rfl), (inT5 (List.mem_of_getElem? (i := 85) rfl) rfl)⟩
def M_X12_range : MD := (⟨"PlanningHouseModel", "range", "(III)J"⟩, prog_14_method_64_code, 4, (some .long))
theorem mk_X12_range : MK M_X12_range 3 := ⟨(inT10 (List.mem_of_getElem? (i := 166) rfl) rfl), (inT1 (List.mem_of_getElem? (i := 9) rfl) rfl), ⟨by decide, by decide, by decide +kernel⟩, by decide, by decide⟩
theorem mv_X12_range : MV M_X12_range := ⟨(inT10 (List.mem_of_getElem? (i := 164) rfl) rfl), (inT10 (List.mem_of_getElem? (i := 165) rfl) rfl)⟩
def M_X11_shown : MD := (⟨"PlanningHouse", "shown", "(III)I"⟩, prog_1_method_12_code, 10, (some .int))
theorem mk_X11_shown : MK M_X11_shown 3 := ⟨(inT5 (List.mem_of_getElem? (i := 80) rfl) rfl), (inT1 (List.mem_of_getElem? (i := 1) rfl) rfl), ⟨by decide, by decide, by decide +kernel⟩, by decide, by decide⟩
theorem mv_X11_shown : MV M_X11_shown := ⟨(inT5 (List.mem_of_getElem? (i := 78) rfl) rfl), (inT5 (List.mem_of_getElem? (i := 79) rfl) rfl)⟩
def M_X12_shown : MD := (⟨"PlanningHouseModel", "shown", "(III)I"⟩, prog_14_method_63_code, 10, (some .int))
theorem mk_X12_shown : MK M_X12_shown 3 := ⟨(inT10 (List.mem_of_getElem? (i := 162) rfl) rfl), (inT1 (List.mem_of_getElem? (i := 9) rfl) rfl), ⟨by decide, by decide, by decide +kernel⟩, by decide, by decide⟩
theorem mv_X12_shown : MV M_X12_shown := ⟨(inT10 (List.mem_of_getElem? (i := 160) rfl) rfl), (inT10 (List.mem_of_getElem? (i := 161) rfl) rfl)⟩
def M_X11_letter : MD := (⟨"PlanningHouse", "letter", "(IIII)I"⟩, prog_1_method_11_code, 6, (some .int))
theorem mk_X11_letter : MK M_X11_letter 4 := ⟨(inT5 (List.mem_of_getElem? (i := 70) rfl) rfl), (inT1 (List.mem_of_getElem? (i := 1) rfl) rfl), ⟨by decide, by decide, by decide +kernel⟩, by decide, by decide⟩
theorem mv_X11_letter : MV M_X11_letter := ⟨(inT5 (List.mem_of_getElem? (i := 68) rfl) rfl), (inT5 (List.mem_of_getElem? (i := 69) rfl) rfl)⟩
def M_X11_letterOf : MD := (⟨"PlanningHouse", "letterOf", "(JI)I"⟩, prog_1_method_72_code, 4, (some .int))
theorem mk_X11_letterOf : MK M_X11_letterOf 2 := ⟨(inT5 (List.mem_of_getElem? (i := 73) rfl) rfl), (inT1 (List.mem_of_getElem? (i := 1) rfl) rfl), ⟨by decide, by decide, by decide +kernel⟩, by decide, by decide⟩
theorem ms_X11_letterOf : MS M_X11_letterOf := (inT5 (List.mem_of_getElem? (i := 72) rfl) rfl)
def M_X12_letter : MD := (⟨"PlanningHouseModel", "letter", "(IIII)I"⟩, prog_14_method_62_code, 6, (some .int))
theorem mk_X12_letter : MK M_X12_letter 4 := ⟨(inT10 (List.mem_of_getElem? (i := 158) rfl) rfl), (inT1 (List.mem_of_getElem? (i := 9) rfl) rfl), ⟨by decide, by decide, by decide +kernel⟩, by decide, by decide⟩
theorem mv_X12_letter : MV M_X12_letter := ⟨(inT10 (List.mem_of_getElem? (i := 156) rfl) rfl), (inT10 (List.mem_of_getElem? (i := 157) rfl) rfl)⟩
def M_X11_find : MD := (⟨"PlanningHouse", "find", "(I)I"⟩, prog_1_method_10_code, 4, (some .int))
theorem mk_X11_find : MK M_X11_find 1 := ⟨(inT5 (List.mem_of_getElem? (i := 64) rfl) rfl), (inT1 (List.mem_of_getElem? (i := 1) rfl) rfl), ⟨by decide, by decide, by decide +kernel⟩, by decide, by decide⟩
theorem mv_X11_find : MV M_X11_find := ⟨(inT5 (List.mem_of_getElem? (i := 62) rfl) rfl), (inT5 (List.mem_of_getElem? (i := 63) rfl) rfl)⟩
def M_X12_find : MD := (⟨"PlanningHouseModel", "find", "(I)I"⟩, prog_14_method_61_code, 2, (some .int))
theorem mk_X12_find : MK M_X12_find 1 := ⟨(inT10 (List.mem_of_getElem? (i := 154) rfl) rfl), (inT1 (List.mem_of_getElem? (i := 9) rfl) rfl), ⟨by decide, by decide, by decide +kernel⟩, by decide, by decide⟩
theorem mv_X12_find : MV M_X12_find := ⟨(inT10 (List.mem_of_getElem? (i := 152) rfl) rfl), (inT10 (List.mem_of_getElem? (i := 153) rfl) rfl)⟩
def M_X11_count : MD := (⟨"PlanningHouse", "count", "(II)I"⟩, prog_1_method_9_code, 4, (some .int))
theorem mk_X11_count : MK M_X11_count 2 := ⟨(inT5 (List.mem_of_getElem? (i := 55) rfl) rfl), (inT1 (List.mem_of_getElem? (i := 1) rfl) rfl), ⟨by decide, by decide, by decide +kernel⟩, by decide, by decide⟩
theorem mv_X11_count : MV M_X11_count := ⟨(inT5 (List.mem_of_getElem? (i := 53) rfl) rfl), (inT5 (List.mem_of_getElem? (i := 54) rfl) rfl)⟩
def M_X7_agreeing : MD := (⟨"PlanningHouse$Space", "agreeing", "(I)I"⟩, prog_9_method_9_code, 4, (some .int))
theorem mk_X7_agreeing : MK M_X7_agreeing 1 := ⟨(inT5 (List.mem_of_getElem? (i := 59) rfl) rfl), (inT1 (List.mem_of_getElem? (i := 14) rfl) rfl), ⟨by decide, by decide, by decide +kernel⟩, by decide, by decide⟩
theorem mv_X7_agreeing : MV M_X7_agreeing := ⟨(inT5 (List.mem_of_getElem? (i := 57) rfl) rfl), (inT5 (List.mem_of_getElem? (i := 58) rfl) rfl)⟩
def M_X12_count : MD := (⟨"PlanningHouseModel", "count", "(II)I"⟩, prog_14_method_60_code, 5, (some .int))
theorem mk_X12_count : MK M_X12_count 2 := ⟨(inT10 (List.mem_of_getElem? (i := 146) rfl) rfl), (inT1 (List.mem_of_getElem? (i := 9) rfl) rfl), ⟨by decide, by decide, by decide +kernel⟩, by decide, by decide⟩
theorem mv_X12_count : MV M_X12_count := ⟨(inT10 (List.mem_of_getElem? (i := 144) rfl) rfl), (inT10 (List.mem_of_getElem? (i := 145) rfl) rfl)⟩
def M_X11_drop : MD := (⟨"PlanningHouse", "drop", "(I)Z"⟩, prog_1_method_8_code, 3, (some .boolean))
theorem mk_X11_drop : MK M_X11_drop 1 := ⟨(inT5 (List.mem_of_getElem? (i := 47) rfl) rfl), (inT1 (List.mem_of_getElem? (i := 1) rfl) rfl), ⟨by decide, by decide, by decide +kernel⟩, by decide, by decide⟩
theorem mv_X11_drop : MV M_X11_drop := ⟨(inT5 (List.mem_of_getElem? (i := 45) rfl) rfl), (inT5 (List.mem_of_getElem? (i := 46) rfl) rfl)⟩
def M_X12_drop : MD := (⟨"PlanningHouseModel", "drop", "(I)Z"⟩, prog_14_method_53_code, 2, (some .boolean))
theorem mk_X12_drop : MK M_X12_drop 1 := ⟨(inT10 (List.mem_of_getElem? (i := 138) rfl) rfl), (inT1 (List.mem_of_getElem? (i := 9) rfl) rfl), ⟨by decide, by decide, by decide +kernel⟩, by decide, by decide⟩
theorem mv_X12_drop : MV M_X12_drop := ⟨(inT10 (List.mem_of_getElem? (i := 136) rfl) rfl), (inT10 (List.mem_of_getElem? (i := 137) rfl) rfl)⟩
def M_X11_fault : MD := (⟨"PlanningHouse", "fault", "()I"⟩, prog_1_method_7_code, 1, (some .int))
theorem mk_X11_fault : MK M_X11_fault 0 := ⟨(inT5 (List.mem_of_getElem? (i := 43) rfl) rfl), (inT1 (List.mem_of_getElem? (i := 1) rfl) rfl), ⟨by decide, by decide, by decide +kernel⟩, by decide, by decide⟩
theorem mv_X11_fault : MV M_X11_fault := ⟨(inT5 (List.mem_of_getElem? (i := 41) rfl) rfl), (inT5 (List.mem_of_getElem? (i := 42) rfl) rfl)⟩
def M_X12_fault : MD := (⟨"PlanningHouseModel", "fault", "()I"⟩, prog_14_method_51_code, 1, (some .int))
theorem mk_X12_fault : MK M_X12_fault 0 := ⟨(inT10 (List.mem_of_getElem? (i := 134) rfl) rfl), (inT1 (List.mem_of_getElem? (i := 9) rfl) rfl), ⟨by decide, by decide, by decide +kernel⟩, by decide, by decide⟩
theorem mv_X12_fault : MV M_X12_fault := ⟨(inT10 (List.mem_of_getElem? (i := 132) rfl) rfl), (inT10 (List.mem_of_getElem? (i := 133) rfl) rfl)⟩
def M_X11_problem : MD := (⟨"PlanningHouse", "problem", "()I"⟩, prog_1_method_6_code, 3, (some .int))
theorem mk_X11_problem : MK M_X11_problem 0 := ⟨(inT2 (List.mem_of_getElem? (i := 132) rfl) rfl), (inT1 (List.mem_of_getElem? (i := 1) rfl) rfl), ⟨by decide, by decide, by decide +kernel⟩, by decide, by decide⟩
theorem mv_X11_problem : MV M_X11_problem := ⟨(inT2 (List.mem_of_getElem? (i := 130) rfl) rfl), (inT2 (List.mem_of_getElem? (i := 131) rfl) rfl)⟩
def M_X12_problem : MD := (⟨"PlanningHouseModel", "problem", "()I"⟩, prog_14_method_50_code, 3, (some .int))
theorem mk_X12_problem : MK M_X12_problem 0 := ⟨(inT9 (List.mem_of_getElem? (i := 177) rfl) rfl), (inT1 (List.mem_of_getElem? (i := 9) rfl) rfl), ⟨by decide, by decide, by decide +kernel⟩, by decide, by decide⟩
theorem mv_X12_problem : MV M_X12_problem := ⟨(inT9 (List.mem_of_getElem? (i := 175) rfl) rfl), (inT9 (List.mem_of_getElem? (i := 176) rfl) rfl)⟩
def M_X11_tapeAt : MD := (⟨"PlanningHouse", "tapeAt", "(I)I"⟩, prog_1_method_5_code, 2, (some .int))
theorem mk_X11_tapeAt : MK M_X11_tapeAt 1 := ⟨(inT2 (List.mem_of_getElem? (i := 128) rfl) rfl), (inT1 (List.mem_of_getElem? (i := 1) rfl) rfl), ⟨by decide, by decide, by decide +kernel⟩, by decide, by decide⟩
theorem mv_X11_tapeAt : MV M_X11_tapeAt := ⟨(inT2 (List.mem_of_getElem? (i := 126) rfl) rfl), (inT2 (List.mem_of_getElem? (i := 127) rfl) rfl)⟩
def M_X12_tapeAt : MD := (⟨"PlanningHouseModel", "tapeAt", "(I)I"⟩, prog_14_method_5_code, 2, (some .int))
theorem mk_X12_tapeAt : MK M_X12_tapeAt 1 := ⟨(inT9 (List.mem_of_getElem? (i := 173) rfl) rfl), (inT1 (List.mem_of_getElem? (i := 9) rfl) rfl), ⟨by decide, by decide, by decide +kernel⟩, by decide, by decide⟩
theorem mv_X12_tapeAt : MV M_X12_tapeAt := ⟨(inT9 (List.mem_of_getElem? (i := 171) rfl) rfl), (inT9 (List.mem_of_getElem? (i := 172) rfl) rfl)⟩
def M_X11_spoil : MD := (⟨"PlanningHouse", "spoil", "(II)I"⟩, prog_1_method_4_code, 3, (some .int))
theorem mk_X11_spoil : MK M_X11_spoil 2 := ⟨(inT2 (List.mem_of_getElem? (i := 116) rfl) rfl), (inT1 (List.mem_of_getElem? (i := 1) rfl) rfl), ⟨by decide, by decide, by decide +kernel⟩, by decide, by decide⟩
theorem mv_X11_spoil : MV M_X11_spoil := ⟨(inT2 (List.mem_of_getElem? (i := 114) rfl) rfl), (inT2 (List.mem_of_getElem? (i := 115) rfl) rfl)⟩
def M_X0_exchange : MD := (⟨"PlanningHouse$Bytes", "exchange", "(II)V"⟩, prog_2_method_3_code, 3, none)
theorem mk_X0_exchange : MK M_X0_exchange 2 := ⟨(inT2 (List.mem_of_getElem? (i := 124) rfl) rfl), (inT1 (List.mem_of_getElem? (i := 2) rfl) rfl), ⟨by decide, by decide, by decide +kernel⟩, by decide, by decide⟩
theorem mv_X0_exchange : MV M_X0_exchange := ⟨(inT2 (List.mem_of_getElem? (i := 122) rfl) rfl), (inT2 (List.mem_of_getElem? (i := 123) rfl) rfl)⟩
def M_X12_spoil : MD := (⟨"PlanningHouseModel", "spoil", "(II)I"⟩, prog_14_method_4_code, 3, (some .int))
theorem mk_X12_spoil : MK M_X12_spoil 2 := ⟨(inT9 (List.mem_of_getElem? (i := 169) rfl) rfl), (inT1 (List.mem_of_getElem? (i := 9) rfl) rfl), ⟨by decide, by decide, by decide +kernel⟩, by decide, by decide⟩
theorem mv_X12_spoil : MV M_X12_spoil := ⟨(inT9 (List.mem_of_getElem? (i := 167) rfl) rfl), (inT9 (List.mem_of_getElem? (i := 168) rfl) rfl)⟩
def M_X11_cut : MD := (⟨"PlanningHouse", "cut", "(I)I"⟩, prog_1_method_3_code, 3, (some .int))
theorem mk_X11_cut : MK M_X11_cut 1 := ⟨(inT2 (List.mem_of_getElem? (i := 108) rfl) rfl), (inT1 (List.mem_of_getElem? (i := 1) rfl) rfl), ⟨by decide, by decide, by decide +kernel⟩, by decide, by decide⟩
theorem mv_X11_cut : MV M_X11_cut := ⟨(inT2 (List.mem_of_getElem? (i := 106) rfl) rfl), (inT2 (List.mem_of_getElem? (i := 107) rfl) rfl)⟩
def M_X12_cut : MD := (⟨"PlanningHouseModel", "cut", "(I)I"⟩, prog_14_method_3_code, 3, (some .int))
theorem mk_X12_cut : MK M_X12_cut 1 := ⟨(inT9 (List.mem_of_getElem? (i := 165) rfl) rfl), (inT1 (List.mem_of_getElem? (i := 9) rfl) rfl), ⟨by decide, by decide, by decide +kernel⟩, by decide, by decide⟩
theorem mv_X12_cut : MV M_X12_cut := ⟨(inT9 (List.mem_of_getElem? (i := 163) rfl) rfl), (inT9 (List.mem_of_getElem? (i := 164) rfl) rfl)⟩
def M_X11_type : MD := (⟨"PlanningHouse", "type", "(JI)I"⟩, prog_1_method_2_code, 4, (some .int))
theorem mk_X11_type : MK M_X11_type 2 := ⟨(inT2 (List.mem_of_getElem? (i := 72) rfl) rfl), (inT1 (List.mem_of_getElem? (i := 1) rfl) rfl), ⟨by decide, by decide, by decide +kernel⟩, by decide, by decide⟩
theorem mv_X11_type : MV M_X11_type := ⟨(inT2 (List.mem_of_getElem? (i := 70) rfl) rfl), (inT2 (List.mem_of_getElem? (i := 71) rfl) rfl)⟩
def M_X12_type : MD := (⟨"PlanningHouseModel", "type", "(JI)I"⟩, prog_14_method_2_code, 5, (some .int))
theorem mk_X12_type : MK M_X12_type 2 := ⟨(inT9 (List.mem_of_getElem? (i := 160) rfl) rfl), (inT1 (List.mem_of_getElem? (i := 9) rfl) rfl), ⟨by decide, by decide, by decide +kernel⟩, by decide, by decide⟩
theorem mv_X12_type : MV M_X12_type := ⟨(inT9 (List.mem_of_getElem? (i := 158) rfl) rfl), (inT9 (List.mem_of_getElem? (i := 159) rfl) rfl)⟩

