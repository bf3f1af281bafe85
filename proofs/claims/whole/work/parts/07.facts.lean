theorem t_in (i : Nat) {w : Cond} (h : tables_1[i]? = some w) : w ∈ lw_tbl := List.mem_append_right _ (List.mem_of_getElem? h)
theorem t_inS (i : Nat) {w : Cond} (h : (k2_sels lw_privs)[i]? = some w) : w ∈ lw_tbl := List.mem_append_left _ (List.mem_of_getElem? h)
set_option maxRecDepth 100000 in
theorem in0_X0 : ∀ w ∈ wsX00, w ∈ lw_tbl := by decide +kernel
set_option maxRecDepth 100000 in
theorem in1_X0 : wsX00.all tSt = true := by decide +kernel
theorem in_X0 : ∀ w ∈ u_ws RX0 TX0 2, w ∈ tTB := fun w hw => tmem (in0_X0 w hw) (List.all_eq_true.mp in1_X0 w hw)
set_option maxRecDepth 100000 in
theorem in0_X1 : ∀ w ∈ wsX10, w ∈ lw_tbl := by decide +kernel
set_option maxRecDepth 100000 in
theorem in1_X1 : wsX10.all tSt = true := by decide +kernel
theorem in_X1 : ∀ w ∈ u_ws RX1 TX1 3, w ∈ tTB := fun w hw => tmem (in0_X1 w hw) (List.all_eq_true.mp in1_X1 w hw)
set_option maxRecDepth 100000 in
theorem in0_X2 : ∀ w ∈ wsX20, w ∈ lw_tbl := by decide +kernel
set_option maxRecDepth 100000 in
theorem in1_X2 : wsX20.all tSt = true := by decide +kernel
theorem in_X2 : ∀ w ∈ u_ws RX2 TX2 2, w ∈ tTB := fun w hw => tmem (in0_X2 w hw) (List.all_eq_true.mp in1_X2 w hw)
set_option maxRecDepth 100000 in
theorem in0_X3 : ∀ w ∈ wsX30, w ∈ lw_tbl := by decide +kernel
set_option maxRecDepth 100000 in
theorem in1_X3 : wsX30.all tSt = true := by decide +kernel
theorem in_X3 : ∀ w ∈ u_ws RX3 TX3 5, w ∈ tTB := fun w hw => tmem (in0_X3 w hw) (List.all_eq_true.mp in1_X3 w hw)
set_option maxRecDepth 100000 in
theorem in0_X4 : ∀ w ∈ wsX40, w ∈ lw_tbl := by decide +kernel
set_option maxRecDepth 100000 in
theorem in1_X4 : wsX40.all tSt = true := by decide +kernel
theorem in_X4 : ∀ w ∈ u_ws RX4 TX4 3, w ∈ tTB := fun w hw => tmem (in0_X4 w hw) (List.all_eq_true.mp in1_X4 w hw)
set_option maxRecDepth 100000 in
theorem in0_X5 : ∀ w ∈ wsX50, w ∈ lw_tbl := by decide +kernel
set_option maxRecDepth 100000 in
theorem in1_X5 : wsX50.all tSt = true := by decide +kernel
theorem in_X5 : ∀ w ∈ u_ws RX5 TX5 6, w ∈ tTB := fun w hw => tmem (in0_X5 w hw) (List.all_eq_true.mp in1_X5 w hw)
set_option maxRecDepth 100000 in
theorem in0_X6 : ∀ w ∈ wsX60, w ∈ lw_tbl := by decide +kernel
set_option maxRecDepth 100000 in
theorem in1_X6 : wsX60.all tSt = true := by decide +kernel
theorem in_X6 : ∀ w ∈ u_ws RX6 TX6 6, w ∈ tTB := fun w hw => tmem (in0_X6 w hw) (List.all_eq_true.mp in1_X6 w hw)
set_option maxRecDepth 100000 in
theorem in0_X7 : ∀ w ∈ wsX70, w ∈ lw_tbl := by decide +kernel
set_option maxRecDepth 100000 in
theorem in1_X7 : wsX70.all tSt = true := by decide +kernel
theorem in_X7 : ∀ w ∈ u_ws RX7 TX7 11, w ∈ tTB := fun w hw => tmem (in0_X7 w hw) (List.all_eq_true.mp in1_X7 w hw)
set_option maxRecDepth 100000 in
theorem in0_X8 : ∀ w ∈ wsX80, w ∈ lw_tbl := by decide +kernel
set_option maxRecDepth 100000 in
theorem in1_X8 : wsX80.all tSt = true := by decide +kernel
theorem in_X8 : ∀ w ∈ u_ws RX8 TX8 39, w ∈ tTB := fun w hw => tmem (in0_X8 w hw) (List.all_eq_true.mp in1_X8 w hw)
theorem ol_X7_1 : Cond.methodLink RX7 1 objectInit ∈ lw_tbl := t_in 19 (by decide +kernel)
theorem fn_X7_7 : tFN RX7 7 6 6 [.int 0, .null, .long 0, .long 0, .null, .int 0] := ⟨RX6, TX6, tyX6, rfl, in_X6, tyX6_ok, ⟨t_in 22 (by decide +kernel), t_in 23 (by decide +kernel), t_in 2 (by decide +kernel)⟩, fun j hj => by rcases (show j = 0 ∨ j = 1 ∨ j = 2 ∨ j = 3 ∨ j = 4 ∨ j = 5 by omega) with rfl | rfl | rfl | rfl | rfl | rfl <;> rfl, fun _ _ => rfl⟩
theorem ml_X7_9 : tML RX7 9 yX6_init := Or.inl (t_in 24 (by decide +kernel))
theorem fl_X7_10 : tFL RX7 10 7 0 := ⟨RX7, TX7, 11, rfl, by decide, in_X7, Or.inl (t_in 179 (by decide +kernel))⟩
theorem fp_X7_10 : tFP RX7 10 7 0 (.object "ReadOnceRecognizer$State") true := ⟨RX7, TX7, 11, tyX7, rfl, by decide, in_X7, tyX7_ok, nmX7, rfl, (by decide +kernel), Or.inl ⟨t_in 179 (by decide +kernel), fun _ => rfl⟩⟩
theorem fl_X7_16 : tFL RX7 16 7 1 := ⟨RX7, TX7, 11, rfl, by decide, in_X7, Or.inl (t_in 180 (by decide +kernel))⟩
theorem fp_X7_16 : tFP RX7 16 7 1 (.object "ReadOnceRecognizer$State") true := ⟨RX7, TX7, 11, tyX7, rfl, by decide, in_X7, tyX7_ok, nmX7, rfl, (by decide +kernel), Or.inl ⟨t_in 180 (by decide +kernel), fun _ => rfl⟩⟩
theorem fl_X7_19 : tFL RX7 19 7 2 := ⟨RX7, TX7, 11, rfl, by decide, in_X7, Or.inl (t_in 181 (by decide +kernel))⟩
theorem fp_X7_19 : tFP RX7 19 7 2 (.boolean) false := ⟨RX7, TX7, 11, tyX7, rfl, by decide, in_X7, tyX7_ok, nmX7, rfl, (by decide +kernel), Or.inl ⟨t_in 181 (by decide +kernel), fun h => nomatch h⟩⟩
theorem fn_X7_23 : tFN RX7 23 4 3 [.null, .null, .int 0] := ⟨RX4, TX4, tyX4, rfl, in_X4, tyX4_ok, ⟨t_in 59 (by decide +kernel), t_in 60 (by decide +kernel), t_in 4 (by decide +kernel)⟩, fun j hj => by rcases (show j = 0 ∨ j = 1 ∨ j = 2 by omega) with rfl | rfl | rfl <;> rfl, fun _ _ => rfl⟩
theorem ml_X7_25 : tML RX7 25 yX4_init := Or.inr ⟨"ReadOnceRecognizer", t_in 61 (by decide +kernel)⟩
theorem fl_X7_26 : tFL RX7 26 7 3 := ⟨RX7, TX7, 11, rfl, by decide, in_X7, Or.inl (t_in 182 (by decide +kernel))⟩
theorem fp_X7_26 : tFP RX7 26 7 3 (.object "ReadOnceRecognizer$History") true := ⟨RX7, TX7, 11, tyX7, rfl, by decide, in_X7, tyX7_ok, nmX7, rfl, (by decide +kernel), Or.inl ⟨t_in 182 (by decide +kernel), fun _ => rfl⟩⟩
theorem fn_X7_30 : tFN RX7 30 3 5 [.null, .int 0, .int 0, .null, .null] := ⟨RX3, TX3, tyX3, rfl, in_X3, tyX3_ok, ⟨t_in 78 (by decide +kernel), t_in 79 (by decide +kernel), t_in 5 (by decide +kernel)⟩, fun j hj => by rcases (show j = 0 ∨ j = 1 ∨ j = 2 ∨ j = 3 ∨ j = 4 by omega) with rfl | rfl | rfl | rfl | rfl <;> rfl, fun _ _ => rfl⟩
theorem ml_X7_32 : tML RX7 32 yX3_init := Or.inr ⟨"ReadOnceRecognizer", t_in 80 (by decide +kernel)⟩
theorem fl_X7_33 : tFL RX7 33 7 4 := ⟨RX7, TX7, 11, rfl, by decide, in_X7, Or.inl (t_in 183 (by decide +kernel))⟩
theorem fp_X7_33 : tFP RX7 33 7 4 (.object "ReadOnceRecognizer$Graph") true := ⟨RX7, TX7, 11, tyX7, rfl, by decide, in_X7, tyX7_ok, nmX7, rfl, (by decide +kernel), Or.inl ⟨t_in 183 (by decide +kernel), fun _ => rfl⟩⟩
theorem fn_X7_37 : tFN RX7 37 1 3 [.null, .null, .int 0] := ⟨RX1, TX1, tyX1, rfl, in_X1, tyX1_ok, ⟨t_in 105 (by decide +kernel), t_in 106 (by decide +kernel), t_in 6 (by decide +kernel)⟩, fun j hj => by rcases (show j = 0 ∨ j = 1 ∨ j = 2 by omega) with rfl | rfl | rfl <;> rfl, fun _ _ => rfl⟩
theorem ml_X7_39 : tML RX7 39 yX1_init := Or.inr ⟨"ReadOnceRecognizer", t_in 107 (by decide +kernel)⟩
theorem fl_X7_40 : tFL RX7 40 7 5 := ⟨RX7, TX7, 11, rfl, by decide, in_X7, Or.inl (t_in 184 (by decide +kernel))⟩
theorem fp_X7_40 : tFP RX7 40 7 5 (.object "ReadOnceRecognizer$Cotree") true := ⟨RX7, TX7, 11, tyX7, rfl, by decide, in_X7, tyX7_ok, nmX7, rfl, (by decide +kernel), Or.inl ⟨t_in 184 (by decide +kernel), fun _ => rfl⟩⟩
theorem fn_X7_44 : tFN RX7 44 5 6 [.null, .int 0, .int 0, .long 0, .int 0, .int 0] := ⟨RX5, TX5, tyX5, rfl, in_X5, tyX5_ok, ⟨t_in 127 (by decide +kernel), t_in 128 (by decide +kernel), t_in 7 (by decide +kernel)⟩, fun j hj => by rcases (show j = 0 ∨ j = 1 ∨ j = 2 ∨ j = 3 ∨ j = 4 ∨ j = 5 by omega) with rfl | rfl | rfl | rfl | rfl | rfl <;> rfl, fun _ _ => rfl⟩
theorem ml_X7_46 : tML RX7 46 yX5_init := Or.inr ⟨"ReadOnceRecognizer", t_in 129 (by decide +kernel)⟩
theorem fl_X7_47 : tFL RX7 47 7 6 := ⟨RX7, TX7, 11, rfl, by decide, in_X7, Or.inl (t_in 185 (by decide +kernel))⟩
theorem fp_X7_47 : tFP RX7 47 7 6 (.object "ReadOnceRecognizer$Input") true := ⟨RX7, TX7, 11, tyX7, rfl, by decide, in_X7, tyX7_ok, nmX7, rfl, (by decide +kernel), Or.inl ⟨t_in 185 (by decide +kernel), fun _ => rfl⟩⟩
theorem fn_X7_51 : tFN RX7 51 2 2 [.null, .int 0] := ⟨RX2, TX2, tyX2, rfl, in_X2, tyX2_ok, ⟨t_in 161 (by decide +kernel), t_in 162 (by decide +kernel), t_in 8 (by decide +kernel)⟩, fun j hj => by rcases (show j = 0 ∨ j = 1 by omega) with rfl | rfl <;> rfl, fun _ _ => rfl⟩
theorem ml_X7_53 : tML RX7 53 yX2_init := Or.inr ⟨"ReadOnceRecognizer", t_in 163 (by decide +kernel)⟩
theorem fl_X7_54 : tFL RX7 54 7 7 := ⟨RX7, TX7, 11, rfl, by decide, in_X7, Or.inl (t_in 186 (by decide +kernel))⟩
theorem fp_X7_54 : tFP RX7 54 7 7 (.object "ReadOnceRecognizer$FormulaText") true := ⟨RX7, TX7, 11, tyX7, rfl, by decide, in_X7, tyX7_ok, nmX7, rfl, (by decide +kernel), Or.inl ⟨t_in 186 (by decide +kernel), fun _ => rfl⟩⟩
theorem fl_X7_58 : tFL RX7 58 7 8 := ⟨RX7, TX7, 11, rfl, by decide, in_X7, Or.inl (t_in 187 (by decide +kernel))⟩
theorem fp_X7_58 : tFP RX7 58 7 8 (.array .int) true := ⟨RX7, TX7, 11, tyX7, rfl, by decide, in_X7, tyX7_ok, nmX7, rfl, (by decide +kernel), Or.inl ⟨t_in 187 (by decide +kernel), fun _ => rfl⟩⟩
theorem fl_X7_62 : tFL RX7 62 7 9 := ⟨RX7, TX7, 11, rfl, by decide, in_X7, Or.inl (t_in 188 (by decide +kernel))⟩
theorem fp_X7_62 : tFP RX7 62 7 9 (.array .int) true := ⟨RX7, TX7, 11, tyX7, rfl, by decide, in_X7, tyX7_ok, nmX7, rfl, (by decide +kernel), Or.inl ⟨t_in 188 (by decide +kernel), fun _ => rfl⟩⟩
theorem fl_X7_65 : tFL RX7 65 7 10 := ⟨RX7, TX7, 11, rfl, by decide, in_X7, Or.inl (t_in 189 (by decide +kernel))⟩
theorem fp_X7_65 : tFP RX7 65 7 10 (.object "ReadOnceRecognizer$Catalog") false := ⟨RX7, TX7, 11, tyX7, rfl, by decide, in_X7, tyX7_ok, nmX7, rfl, (by decide +kernel), Or.inl ⟨t_in 189 (by decide +kernel), fun h => nomatch h⟩⟩
theorem ml_X7_69 : tML RX7 69 yJ7_fill_53178 := Or.inl (t_in 176 (by decide +kernel))
theorem fl_X7_75 : tFL RX7 75 6 0 := ⟨RX6, TX6, 6, rfl, by decide, in_X6, Or.inr ⟨"ReadOnceRecognizer", t_in 33 (by decide +kernel)⟩⟩
theorem ml_X7_79 : tML RX7 79 yX6_startAnew := Or.inl (t_in 217 (by decide +kernel))
theorem ml_X7_83 : tML RX7 83 yX4_forget := Or.inl (t_in 221 (by decide +kernel))
theorem ml_X7_86 : tML RX7 86 yX7_isSlot := Or.inl (t_in 233 (by decide +kernel))
theorem ml_X7_90 : tML RX7 90 yX7_fullTable := Or.inl (t_in 239 (by decide +kernel))
theorem ml_X7_94 : tML RX7 94 yX7_store := Or.inl (t_in 240 (by decide +kernel))
theorem ml_X7_98 : tML RX7 98 yX7_slotError := Or.inl (t_in 261 (by decide +kernel))
theorem fl_X7_102 : tFL RX7 102 6 1 := ⟨RX6, TX6, 6, rfl, by decide, in_X6, Or.inr ⟨"ReadOnceRecognizer", t_in 35 (by decide +kernel)⟩⟩
theorem kc_X7_106 : Cond.constantLong RX7 106 (-1) ∈ lw_tbl := t_in 274 (by decide +kernel)
theorem ml_X7_108 : tML RX7 108 yX6_usedCount := Or.inl (t_in 275 (by decide +kernel))
theorem ml_X7_112 : tML RX7 112 yX7_isPoint := Or.inl (t_in 284 (by decide +kernel))
theorem ml_X7_115 : tML RX7 115 yX7_bitAt := Or.inl (t_in 288 (by decide +kernel))
theorem ml_X7_119 : tML RX7 119 yX7_essentialSet := Or.inl (t_in 299 (by decide +kernel))
theorem ml_X7_122 : tML RX7 122 yX7_lowestViolation := Or.inl (t_in 306 (by decide +kernel))
theorem ml_X7_125 : tML RX7 125 yX7_drawGraph := Or.inl (t_in 320 (by decide +kernel))
theorem fl_X7_128 : tFL RX7 128 3 1 := ⟨RX3, TX3, 5, rfl, by decide, in_X3, Or.inr ⟨"ReadOnceRecognizer", t_in 86 (by decide +kernel)⟩⟩
theorem ml_X7_131 : tML RX7 131 yX3_primeAt := Or.inl (t_in 345 (by decide +kernel))
theorem ml_X7_134 : tML RX7 134 yX7_isVariable := Or.inl (t_in 354 (by decide +kernel))
theorem fl_X7_137 : tFL RX7 137 3 3 := ⟨RX3, TX3, 5, rfl, by decide, in_X3, Or.inr ⟨"ReadOnceRecognizer", t_in 91 (by decide +kernel)⟩⟩
theorem ml_X7_140 : tML RX7 140 yX7_isIndex := Or.inl (t_in 236 (by decide +kernel))
theorem ml_X7_144 : tML RX7 144 yX3_findPath := Or.inl (t_in 362 (by decide +kernel))
theorem fl_X7_148 : tFL RX7 148 3 4 := ⟨RX3, TX3, 5, rfl, by decide, in_X3, Or.inr ⟨"ReadOnceRecognizer", t_in 93 (by decide +kernel)⟩⟩
theorem ml_X7_151 : tML RX7 151 yX3_lowestBadClique := Or.inl (t_in 382 (by decide +kernel))
theorem ml_X7_154 : tML RX7 154 yX7_whyNotReadOnce := Or.inl (t_in 398 (by decide +kernel))
theorem ml_X7_158 : tML RX7 158 yX7_growCotree := Or.inl (t_in 406 (by decide +kernel))
theorem fl_X7_161 : tFL RX7 161 1 2 := ⟨RX1, TX1, 3, rfl, by decide, in_X1, Or.inr ⟨"ReadOnceRecognizer", t_in 119 (by decide +kernel)⟩⟩
theorem ml_X7_164 : tML RX7 164 yX1_has := Or.inl (t_in 437 (by decide +kernel))
theorem fl_X7_167 : tFL RX7 167 1 0 := ⟨RX1, TX1, 3, rfl, by decide, in_X1, Or.inr ⟨"ReadOnceRecognizer", t_in 113 (by decide +kernel)⟩⟩
theorem fl_X7_170 : tFL RX7 170 1 1 := ⟨RX1, TX1, 3, rfl, by decide, in_X1, Or.inr ⟨"ReadOnceRecognizer", t_in 116 (by decide +kernel)⟩⟩
theorem ml_X7_173 : tML RX7 173 yX1_depthOfLeaf := Or.inl (t_in 450 (by decide +kernel))
theorem fl_X7_176 : tFL RX7 176 2 1 := ⟨RX2, TX2, 2, rfl, by decide, in_X2, Or.inr ⟨"ReadOnceRecognizer", t_in 170 (by decide +kernel)⟩⟩
theorem fp_X7_176 : tFP RX7 176 2 1 (.int) false := ⟨RX2, TX2, 2, tyX2, rfl, by decide, in_X2, tyX2_ok, nmX2, rfl, (by decide +kernel), Or.inr ⟨rfl, "ReadOnceRecognizer", t_in 170 (by decide +kernel)⟩⟩
theorem ml_X7_179 : tML RX7 179 yX2_put := Or.inl (t_in 463 (by decide +kernel))
theorem ml_X7_182 : tML RX7 182 yX2_putTree := Or.inl (t_in 467 (by decide +kernel))
theorem fl_X7_186 : tFL RX7 186 2 0 := ⟨RX2, TX2, 2, rfl, by decide, in_X2, Or.inr ⟨"ReadOnceRecognizer", t_in 168 (by decide +kernel)⟩⟩
theorem ml_X7_189 : tML RX7 189 yX5_append := Or.inl (t_in 489 (by decide +kernel))
theorem fl_X7_192 : tFL RX7 192 5 1 := ⟨RX5, TX5, 6, rfl, by decide, in_X5, Or.inr ⟨"ReadOnceRecognizer", t_in 141 (by decide +kernel)⟩⟩
theorem fp_X7_192 : tFP RX7 192 5 1 (.int) false := ⟨RX5, TX5, 6, tyX5, rfl, by decide, in_X5, tyX5_ok, nmX5, rfl, (by decide +kernel), Or.inr ⟨rfl, "ReadOnceRecognizer", t_in 141 (by decide +kernel)⟩⟩
theorem ml_X7_193 : tML RX7 193 yX5_readFormula := Or.inl (t_in 497 (by decide +kernel))
theorem fl_X7_196 : tFL RX7 196 5 4 := ⟨RX5, TX5, 6, rfl, by decide, in_X5, Or.inr ⟨"ReadOnceRecognizer", t_in 145 (by decide +kernel)⟩⟩
theorem fl_X7_199 : tFL RX7 199 5 5 := ⟨RX5, TX5, 6, rfl, by decide, in_X5, Or.inr ⟨"ReadOnceRecognizer", t_in 147 (by decide +kernel)⟩⟩
theorem ml_X7_202 : tML RX7 202 yX6_holds := Or.inl (t_in 265 (by decide +kernel))
theorem ml_X7_205 : tML RX7 205 yX7_applied := Or.inl (t_in 533 (by decide +kernel))
theorem ml_X7_209 : tML RX7 209 yX7_pointCount := Or.inl (t_in 136 (by decide +kernel))
theorem ml_X7_212 : tML RX7 212 yX7_isBit := Or.inl (t_in 544 (by decide +kernel))
theorem ml_X7_215 : tML RX7 215 yX7_substituted := Or.inl (t_in 547 (by decide +kernel))
theorem ml_X7_219 : tML RX7 219 yX7_withBit := Or.inl (t_in 551 (by decide +kernel))
theorem ml_X7_223 : tML RX7 223 yX7_drawnTable := Or.inl (t_in 566 (by decide +kernel))
theorem fl_X7_227 : tFL RX7 227 6 2 := ⟨RX6, TX6, 6, rfl, by decide, in_X6, Or.inr ⟨"ReadOnceRecognizer", t_in 37 (by decide +kernel)⟩⟩
theorem fp_X7_227 : tFP RX7 227 6 2 (.long) false := ⟨RX6, TX6, 6, tyX6, rfl, by decide, in_X6, tyX6_ok, nmX6, rfl, (by decide +kernel), Or.inr ⟨rfl, "ReadOnceRecognizer", t_in 37 (by decide +kernel)⟩⟩
theorem fl_X7_231 : tFL RX7 231 6 3 := ⟨RX6, TX6, 6, rfl, by decide, in_X6, Or.inr ⟨"ReadOnceRecognizer", t_in 39 (by decide +kernel)⟩⟩
theorem fp_X7_231 : tFP RX7 231 6 3 (.long) false := ⟨RX6, TX6, 6, tyX6, rfl, by decide, in_X6, tyX6_ok, nmX6, rfl, (by decide +kernel), Or.inr ⟨rfl, "ReadOnceRecognizer", t_in 39 (by decide +kernel)⟩⟩
theorem ml_X7_234 : tML RX7 234 yJ13_bitCount_95d88 := Or.inl (t_in 251 (by decide +kernel))
theorem ml_X7_239 : tML RX7 239 yX7_openCatalog := Or.inl (t_in 590 (by decide +kernel))
theorem fl_X7_243 : tFL RX7 243 0 1 := ⟨RX0, TX0, 2, rfl, by decide, in_X0, Or.inr ⟨"ReadOnceRecognizer", t_in 642 (by decide +kernel)⟩⟩
theorem fn_X7_244 : tFN RX7 244 0 2 [.null, .int 0] := ⟨RX0, TX0, tyX0, rfl, in_X0, tyX0_ok, ⟨t_in 594 (by decide +kernel), t_in 595 (by decide +kernel), t_in 13 (by decide +kernel)⟩, fun j hj => by rcases (show j = 0 ∨ j = 1 by omega) with rfl | rfl <;> rfl, fun _ _ => rfl⟩
theorem ml_X7_246 : tML RX7 246 yX7_isExtension := Or.inl (t_in 648 (by decide +kernel))
theorem ml_X7_250 : tML RX7 250 yX0_tableAt := Or.inl (t_in 652 (by decide +kernel))
theorem ml_X7_253 : tML RX7 253 yX0_supportAt := Or.inl (t_in 653 (by decide +kernel))
theorem ml_X7_256 : tML RX7 256 yJ6_bitCount_0f7a4 := Or.inl (t_in 665 (by decide +kernel))
theorem fl_X7_260 : tFL RX7 260 6 5 := ⟨RX6, TX6, 6, rfl, by decide, in_X6, Or.inr ⟨"ReadOnceRecognizer", t_in 43 (by decide +kernel)⟩⟩
theorem fp_X7_260 : tFP RX7 260 6 5 (.int) false := ⟨RX6, TX6, 6, tyX6, rfl, by decide, in_X6, tyX6_ok, nmX6, rfl, (by decide +kernel), Or.inr ⟨rfl, "ReadOnceRecognizer", t_in 43 (by decide +kernel)⟩⟩
theorem ml_X7_263 : tML RX7 263 yX6_appendStep := Or.inl (t_in 674 (by decide +kernel))
theorem ml_X7_267 : tML RX7 267 yX7_runStep := Or.inl (t_in 686 (by decide +kernel))
theorem fl_X7_270 : tFL RX7 270 4 2 := ⟨RX4, TX4, 3, rfl, by decide, in_X4, Or.inr ⟨"ReadOnceRecognizer", t_in 70 (by decide +kernel)⟩⟩
theorem fp_X7_270 : tFP RX7 270 4 2 (.int) false := ⟨RX4, TX4, 3, tyX4, rfl, by decide, in_X4, tyX4_ok, nmX4, rfl, (by decide +kernel), Or.inr ⟨rfl, "ReadOnceRecognizer", t_in 70 (by decide +kernel)⟩⟩
theorem fl_X7_271 : tFL RX7 271 4 0 := ⟨RX4, TX4, 3, rfl, by decide, in_X4, Or.inr ⟨"ReadOnceRecognizer", t_in 66 (by decide +kernel)⟩⟩
theorem fl_X7_274 : tFL RX7 274 4 1 := ⟨RX4, TX4, 3, rfl, by decide, in_X4, Or.inr ⟨"ReadOnceRecognizer", t_in 68 (by decide +kernel)⟩⟩
theorem ml_X7_277 : tML RX7 277 yX6_copyFrom := Or.inl (t_in 705 (by decide +kernel))
theorem kc_X7_281 : Cond.constantLong RX7 281 (-9223372036854775808) ∈ lw_tbl := t_in 726 (by decide +kernel)
theorem ml_X7_283 : tML RX7 283 yX4_remember := Or.inl (t_in 244 (by decide +kernel))
theorem ml_X7_287 : tML RX7 287 yX3_fill := Or.inl (t_in 324 (by decide +kernel))
theorem ml_X7_289 : tML RX7 289 yX1_fill := Or.inl (t_in 410 (by decide +kernel))
theorem fl_X7_292 : tFL RX7 292 6 4 := ⟨RX6, TX6, 6, rfl, by decide, in_X6, Or.inr ⟨"ReadOnceRecognizer", t_in 41 (by decide +kernel)⟩⟩
theorem ml_X7_295 : tML RX7 295 yX7_combine := Or.inl (t_in 690 (by decide +kernel))
theorem ml_X7_299 : tML RX7 299 yX7_dual := Or.inl (t_in 691 (by decide +kernel))
theorem ml_X7_303 : tML RX7 303 yX7_cofactor := Or.inl (t_in 692 (by decide +kernel))
theorem ml_X7_306 : tML RX7 306 yX0_init := Or.inl (t_in 596 (by decide +kernel))
theorem ml_X7_307 : tML RX7 307 yX7_fallsAbove := Or.inl (t_in 309 (by decide +kernel))
theorem kc_X7_311 : Cond.constant RX7 311 (1103515245) ∈ lw_tbl := t_in 570 (by decide +kernel)
theorem ml_X7_312 : tML RX7 312 yX7_supersets := Or.inl (t_in 571 (by decide +kernel))
theorem ml_X7_315 : tML RX7 315 yX7_hasVariable := Or.inl (t_in 377 (by decide +kernel))
theorem ol_X0_3 : Cond.methodLink RX0 3 objectInit ∈ lw_tbl := t_in 599 (by decide +kernel)
theorem fl_X0_11 : tFL RX0 11 0 0 := ⟨RX0, TX0, 2, rfl, by decide, in_X0, Or.inl (t_in 640 (by decide +kernel))⟩
theorem fp_X0_11 : tFP RX0 11 0 0 (.array .long) true := ⟨RX0, TX0, 2, tyX0, rfl, by decide, in_X0, tyX0_ok, nmX0, rfl, (by decide +kernel), Or.inl ⟨t_in 640 (by decide +kernel), fun _ => rfl⟩⟩
theorem fl_X0_15 : tFL RX0 15 0 1 := ⟨RX0, TX0, 2, rfl, by decide, in_X0, Or.inl (t_in 641 (by decide +kernel))⟩
theorem fp_X0_15 : tFP RX0 15 0 1 (.int) false := ⟨RX0, TX0, 2, tyX0, rfl, by decide, in_X0, tyX0_ok, nmX0, rfl, (by decide +kernel), Or.inl ⟨t_in 641 (by decide +kernel), fun h => nomatch h⟩⟩
theorem ml_X0_19 : tML RX0 19 yX0_enter := Or.inl (t_in 600 (by decide +kernel))
theorem kc_X0_23 : Cond.constantLong RX0 23 (4294967295) ∈ lw_tbl := t_in 604 (by decide +kernel)
theorem ml_X0_25 : tML RX0 25 yX0_enterAll := Or.inl (t_in 605 (by decide +kernel))
theorem ml_X0_29 : tML RX0 29 yX0_sort := Or.inl (t_in 630 (by decide +kernel))
theorem ml_X0_32 : tML RX0 32 yX7_isIndex := Or.inr ⟨"ReadOnceRecognizer", t_in 620 (by decide +kernel)⟩
theorem kc_X0_36 : Cond.constantLong RX0 36 (-1) ∈ lw_tbl := t_in 621 (by decide +kernel)
theorem ml_X0_38 : tML RX0 38 yX7_lowestVariable := Or.inr ⟨"ReadOnceRecognizer", t_in 609 (by decide +kernel)⟩
theorem sl_X0_42 : tSL RX0 42 "ReadOnceRecognizer" "VARIABLE_TABLES" "[J" := Or.inr ⟨"ReadOnceRecognizer", t_in 610 (by decide +kernel)⟩
theorem ml_X0_45 : tML RX0 45 yX7_hasVariable := Or.inr ⟨"ReadOnceRecognizer", t_in 611 (by decide +kernel)⟩
theorem ml_X0_48 : tML RX0 48 yX0_enterSplit := Or.inl (t_in 612 (by decide +kernel))
theorem ml_X0_52 : tML RX0 52 yX0_tableAt := Or.inl (t_in 616 (by decide +kernel))
theorem ml_X0_56 : tML RX0 56 yX0_rootAt := Or.inl (t_in 622 (by decide +kernel))
theorem ml_X0_59 : tML RX0 59 yX0_enterJoined := Or.inl (t_in 626 (by decide +kernel))
theorem sl_X0_63 : tSL RX0 63 "ReadOnceRecognizer$Catalog" "GAPS" "[I" := Or.inl (t_in 634 (by decide +kernel))
theorem ml_X0_67 : tML RX0 67 yX0_sink := Or.inl (t_in 636 (by decide +kernel))
theorem ol_X1_3 : Cond.methodLink RX1 3 objectInit ∈ lw_tbl := t_in 110 (by decide +kernel)
theorem fl_X1_11 : tFL RX1 11 1 0 := ⟨RX1, TX1, 3, rfl, by decide, in_X1, Or.inl (t_in 111 (by decide +kernel))⟩
theorem fp_X1_11 : tFP RX1 11 1 0 (.array .int) true := ⟨RX1, TX1, 3, tyX1, rfl, by decide, in_X1, tyX1_ok, nmX1, rfl, (by decide +kernel), Or.inl ⟨t_in 111 (by decide +kernel), fun _ => rfl⟩⟩
theorem fl_X1_15 : tFL RX1 15 1 1 := ⟨RX1, TX1, 3, rfl, by decide, in_X1, Or.inl (t_in 114 (by decide +kernel))⟩
theorem fp_X1_15 : tFP RX1 15 1 1 (.array .int) true := ⟨RX1, TX1, 3, tyX1, rfl, by decide, in_X1, tyX1_ok, nmX1, rfl, (by decide +kernel), Or.inl ⟨t_in 114 (by decide +kernel), fun _ => rfl⟩⟩
theorem fl_X1_18 : tFL RX1 18 1 2 := ⟨RX1, TX1, 3, rfl, by decide, in_X1, Or.inl (t_in 117 (by decide +kernel))⟩
theorem fp_X1_18 : tFP RX1 18 1 2 (.int) false := ⟨RX1, TX1, 3, tyX1, rfl, by decide, in_X1, tyX1_ok, nmX1, rfl, (by decide +kernel), Or.inl ⟨t_in 117 (by decide +kernel), fun h => nomatch h⟩⟩
theorem fl_X1_22 : tFL RX1 22 3 2 := ⟨RX3, TX3, 5, rfl, by decide, in_X3, Or.inr ⟨"ReadOnceRecognizer", t_in 88 (by decide +kernel)⟩⟩
theorem ml_X1_27 : tML RX1 27 yX1_grow := Or.inl (t_in 414 (by decide +kernel))
theorem ml_X1_31 : tML RX1 31 yJ6_bitCount_0f7a4 := Or.inl (t_in 418 (by decide +kernel))
theorem ml_X1_37 : tML RX1 37 yX7_lowestVariable := Or.inr ⟨"ReadOnceRecognizer", t_in 424 (by decide +kernel)⟩
theorem ml_X1_40 : tML RX1 40 yX1_component := Or.inl (t_in 425 (by decide +kernel))
theorem ml_X1_44 : tML RX1 44 yX1_growChildren := Or.inl (t_in 429 (by decide +kernel))
theorem ml_X1_47 : tML RX1 47 yX7_hasVariable := Or.inr ⟨"ReadOnceRecognizer", t_in 428 (by decide +kernel)⟩
theorem fl_X1_51 : tFL RX1 51 3 3 := ⟨RX3, TX3, 5, rfl, by decide, in_X3, Or.inr ⟨"ReadOnceRecognizer", t_in 90 (by decide +kernel)⟩⟩
theorem ml_X1_54 : tML RX1 54 yX7_isIndex := Or.inr ⟨"ReadOnceRecognizer", t_in 441 (by decide +kernel)⟩
theorem ml_X1_57 : tML RX1 57 yX1_depthOfNode := Or.inl (t_in 454 (by decide +kernel))
theorem ml_X1_60 : tML RX1 60 yX1_has := Or.inl (t_in 458 (by decide +kernel))
theorem ol_X2_3 : Cond.methodLink RX2 3 objectInit ∈ lw_tbl := t_in 166 (by decide +kernel)
theorem fl_X2_11 : tFL RX2 11 2 0 := ⟨RX2, TX2, 2, rfl, by decide, in_X2, Or.inl (t_in 167 (by decide +kernel))⟩
theorem fp_X2_11 : tFP RX2 11 2 0 (.array .int) true := ⟨RX2, TX2, 2, tyX2, rfl, by decide, in_X2, tyX2_ok, nmX2, rfl, (by decide +kernel), Or.inl ⟨t_in 167 (by decide +kernel), fun _ => rfl⟩⟩
theorem fl_X2_15 : tFL RX2 15 2 1 := ⟨RX2, TX2, 2, rfl, by decide, in_X2, Or.inl (t_in 169 (by decide +kernel))⟩
theorem fp_X2_15 : tFP RX2 15 2 1 (.int) false := ⟨RX2, TX2, 2, tyX2, rfl, by decide, in_X2, tyX2_ok, nmX2, rfl, (by decide +kernel), Or.inl ⟨t_in 169 (by decide +kernel), fun h => nomatch h⟩⟩
theorem ml_X2_19 : tML RX2 19 yX2_putNode := Or.inl (t_in 471 (by decide +kernel))
theorem ml_X2_23 : tML RX2 23 yX1_has := Or.inl (t_in 475 (by decide +kernel))
theorem fl_X2_29 : tFL RX2 29 1 0 := ⟨RX1, TX1, 3, rfl, by decide, in_X1, Or.inr ⟨"ReadOnceRecognizer", t_in 112 (by decide +kernel)⟩⟩
theorem ml_X2_32 : tML RX2 32 yX2_put := Or.inl (t_in 476 (by decide +kernel))
theorem fl_X2_36 : tFL RX2 36 1 2 := ⟨RX1, TX1, 3, rfl, by decide, in_X1, Or.inr ⟨"ReadOnceRecognizer", t_in 118 (by decide +kernel)⟩⟩
theorem fl_X2_39 : tFL RX2 39 1 1 := ⟨RX1, TX1, 3, rfl, by decide, in_X1, Or.inr ⟨"ReadOnceRecognizer", t_in 115 (by decide +kernel)⟩⟩
theorem ml_X2_42 : tML RX2 42 yX2_putChild := Or.inl (t_in 477 (by decide +kernel))
theorem ol_X3_3 : Cond.methodLink RX3 3 objectInit ∈ lw_tbl := t_in 83 (by decide +kernel)
theorem fl_X3_9 : tFL RX3 9 3 0 := ⟨RX3, TX3, 5, rfl, by decide, in_X3, Or.inl (t_in 84 (by decide +kernel))⟩
theorem fp_X3_9 : tFP RX3 9 3 0 (.array .int) true := ⟨RX3, TX3, 5, tyX3, rfl, by decide, in_X3, tyX3_ok, nmX3, rfl, (by decide +kernel), Or.inl ⟨t_in 84 (by decide +kernel), fun _ => rfl⟩⟩
theorem fl_X3_15 : tFL RX3 15 3 1 := ⟨RX3, TX3, 5, rfl, by decide, in_X3, Or.inl (t_in 85 (by decide +kernel))⟩
theorem fp_X3_15 : tFP RX3 15 3 1 (.int) false := ⟨RX3, TX3, 5, tyX3, rfl, by decide, in_X3, tyX3_ok, nmX3, rfl, (by decide +kernel), Or.inl ⟨t_in 85 (by decide +kernel), fun h => nomatch h⟩⟩
theorem fl_X3_19 : tFL RX3 19 3 2 := ⟨RX3, TX3, 5, rfl, by decide, in_X3, Or.inl (t_in 87 (by decide +kernel))⟩
theorem fp_X3_19 : tFP RX3 19 3 2 (.int) false := ⟨RX3, TX3, 5, tyX3, rfl, by decide, in_X3, tyX3_ok, nmX3, rfl, (by decide +kernel), Or.inl ⟨t_in 87 (by decide +kernel), fun h => nomatch h⟩⟩
theorem fl_X3_22 : tFL RX3 22 3 3 := ⟨RX3, TX3, 5, rfl, by decide, in_X3, Or.inl (t_in 89 (by decide +kernel))⟩
theorem fp_X3_22 : tFP RX3 22 3 3 (.array .int) true := ⟨RX3, TX3, 5, tyX3, rfl, by decide, in_X3, tyX3_ok, nmX3, rfl, (by decide +kernel), Or.inl ⟨t_in 89 (by decide +kernel), fun _ => rfl⟩⟩
theorem fl_X3_25 : tFL RX3 25 3 4 := ⟨RX3, TX3, 5, rfl, by decide, in_X3, Or.inl (t_in 92 (by decide +kernel))⟩
theorem fp_X3_25 : tFP RX3 25 3 4 (.array .int) true := ⟨RX3, TX3, 5, tyX3, rfl, by decide, in_X3, tyX3_ok, nmX3, rfl, (by decide +kernel), Or.inl ⟨t_in 92 (by decide +kernel), fun _ => rfl⟩⟩
theorem ml_X3_28 : tML RX3 28 yJ7_fill_53178 := Or.inl (t_in 328 (by decide +kernel))
theorem ml_X3_34 : tML RX3 34 yX7_pointCount := Or.inr ⟨"ReadOnceRecognizer", t_in 329 (by decide +kernel)⟩
theorem ml_X3_38 : tML RX3 38 yX7_bitAt := Or.inr ⟨"ReadOnceRecognizer", t_in 330 (by decide +kernel)⟩
theorem ml_X3_42 : tML RX3 42 yX3_isMinimal := Or.inl (t_in 331 (by decide +kernel))
theorem ml_X3_46 : tML RX3 46 yX3_addPrime := Or.inl (t_in 334 (by decide +kernel))
theorem ml_X3_50 : tML RX3 50 yX7_hasVariable := Or.inr ⟨"ReadOnceRecognizer", t_in 338 (by decide +kernel)⟩
theorem ml_X3_54 : tML RX3 54 yX7_isIndex := Or.inr ⟨"ReadOnceRecognizer", t_in 349 (by decide +kernel)⟩
theorem ml_X3_57 : tML RX3 57 yX3_areAdjacent := Or.inl (t_in 366 (by decide +kernel))
theorem ml_X3_60 : tML RX3 60 yX3_findPathFrom := Or.inl (t_in 370 (by decide +kernel))
theorem ml_X3_63 : tML RX3 63 yX7_lowestVariable := Or.inr ⟨"ReadOnceRecognizer", t_in 374 (by decide +kernel)⟩
theorem ml_X3_66 : tML RX3 66 yX3_isMaximalClique := Or.inl (t_in 386 (by decide +kernel))
theorem ml_X3_70 : tML RX3 70 yX3_isPrime := Or.inl (t_in 390 (by decide +kernel))
theorem ol_X4_3 : Cond.methodLink RX4 3 objectInit ∈ lw_tbl := t_in 64 (by decide +kernel)
theorem fl_X4_9 : tFL RX4 9 4 0 := ⟨RX4, TX4, 3, rfl, by decide, in_X4, Or.inl (t_in 65 (by decide +kernel))⟩
theorem fp_X4_9 : tFP RX4 9 4 0 (.array .int) true := ⟨RX4, TX4, 3, tyX4, rfl, by decide, in_X4, tyX4_ok, nmX4, rfl, (by decide +kernel), Or.inl ⟨t_in 65 (by decide +kernel), fun _ => rfl⟩⟩
theorem fl_X4_15 : tFL RX4 15 4 1 := ⟨RX4, TX4, 3, rfl, by decide, in_X4, Or.inl (t_in 67 (by decide +kernel))⟩
theorem fp_X4_15 : tFP RX4 15 4 1 (.array .long) true := ⟨RX4, TX4, 3, tyX4, rfl, by decide, in_X4, tyX4_ok, nmX4, rfl, (by decide +kernel), Or.inl ⟨t_in 67 (by decide +kernel), fun _ => rfl⟩⟩
theorem fl_X4_19 : tFL RX4 19 4 2 := ⟨RX4, TX4, 3, rfl, by decide, in_X4, Or.inl (t_in 69 (by decide +kernel))⟩
theorem fp_X4_19 : tFP RX4 19 4 2 (.int) false := ⟨RX4, TX4, 3, tyX4, rfl, by decide, in_X4, tyX4_ok, nmX4, rfl, (by decide +kernel), Or.inl ⟨t_in 69 (by decide +kernel), fun h => nomatch h⟩⟩
theorem al_X4_23 : Cond.methodLink RX4 23 arraycopyName ∈ lw_tbl := t_in 248 (by decide +kernel)
theorem ol_X5_3 : Cond.methodLink RX5 3 objectInit ∈ lw_tbl := t_in 132 (by decide +kernel)
theorem fl_X5_11 : tFL RX5 11 5 0 := ⟨RX5, TX5, 6, rfl, by decide, in_X5, Or.inl (t_in 139 (by decide +kernel))⟩
theorem fp_X5_11 : tFP RX5 11 5 0 (.array .int) true := ⟨RX5, TX5, 6, tyX5, rfl, by decide, in_X5, tyX5_ok, nmX5, rfl, (by decide +kernel), Or.inl ⟨t_in 139 (by decide +kernel), fun _ => rfl⟩⟩
theorem fl_X5_15 : tFL RX5 15 5 1 := ⟨RX5, TX5, 6, rfl, by decide, in_X5, Or.inl (t_in 140 (by decide +kernel))⟩
theorem fp_X5_15 : tFP RX5 15 5 1 (.int) false := ⟨RX5, TX5, 6, tyX5, rfl, by decide, in_X5, tyX5_ok, nmX5, rfl, (by decide +kernel), Or.inl ⟨t_in 140 (by decide +kernel), fun h => nomatch h⟩⟩
theorem fl_X5_19 : tFL RX5 19 5 2 := ⟨RX5, TX5, 6, rfl, by decide, in_X5, Or.inl (t_in 142 (by decide +kernel))⟩
theorem fp_X5_19 : tFP RX5 19 5 2 (.int) false := ⟨RX5, TX5, 6, tyX5, rfl, by decide, in_X5, tyX5_ok, nmX5, rfl, (by decide +kernel), Or.inl ⟨t_in 142 (by decide +kernel), fun h => nomatch h⟩⟩
theorem ml_X5_22 : tML RX5 22 yX7_fullTable := Or.inr ⟨"ReadOnceRecognizer", t_in 133 (by decide +kernel)⟩
theorem fl_X5_26 : tFL RX5 26 5 3 := ⟨RX5, TX5, 6, rfl, by decide, in_X5, Or.inl (t_in 143 (by decide +kernel))⟩
theorem fp_X5_26 : tFP RX5 26 5 3 (.long) false := ⟨RX5, TX5, 6, tyX5, rfl, by decide, in_X5, tyX5_ok, nmX5, rfl, (by decide +kernel), Or.inl ⟨t_in 143 (by decide +kernel), fun h => nomatch h⟩⟩
theorem fl_X5_30 : tFL RX5 30 5 4 := ⟨RX5, TX5, 6, rfl, by decide, in_X5, Or.inl (t_in 144 (by decide +kernel))⟩
theorem fp_X5_30 : tFP RX5 30 5 4 (.int) false := ⟨RX5, TX5, 6, tyX5, rfl, by decide, in_X5, tyX5_ok, nmX5, rfl, (by decide +kernel), Or.inl ⟨t_in 144 (by decide +kernel), fun h => nomatch h⟩⟩
theorem fl_X5_33 : tFL RX5 33 5 5 := ⟨RX5, TX5, 6, rfl, by decide, in_X5, Or.inl (t_in 146 (by decide +kernel))⟩
theorem fp_X5_33 : tFP RX5 33 5 5 (.int) false := ⟨RX5, TX5, 6, tyX5, rfl, by decide, in_X5, tyX5_ok, nmX5, rfl, (by decide +kernel), Or.inl ⟨t_in 146 (by decide +kernel), fun h => nomatch h⟩⟩
theorem ml_X5_36 : tML RX5 36 yX5_readSum := Or.inl (t_in 501 (by decide +kernel))
theorem kc_X5_39 : Cond.constantLong RX5 39 (-1) ∈ lw_tbl := t_in 521 (by decide +kernel)
theorem ml_X5_41 : tML RX5 41 yX5_readProduct := Or.inl (t_in 505 (by decide +kernel))
theorem ml_X5_44 : tML RX5 44 yX5_nextIs := Or.inl (t_in 513 (by decide +kernel))
theorem ml_X5_48 : tML RX5 48 yX5_readFactor := Or.inl (t_in 509 (by decide +kernel))
theorem ml_X5_51 : tML RX5 51 yX5_readOpened := Or.inl (t_in 517 (by decide +kernel))
theorem ml_X5_54 : tML RX5 54 yX5_readAtom := Or.inl (t_in 522 (by decide +kernel))
theorem ml_X5_58 : tML RX5 58 yX7_isIndex := Or.inr ⟨"ReadOnceRecognizer", t_in 526 (by decide +kernel)⟩
theorem sl_X5_62 : tSL RX5 62 "ReadOnceRecognizer" "VARIABLE_TABLES" "[J" := Or.inr ⟨"ReadOnceRecognizer", t_in 527 (by decide +kernel)⟩
theorem ol_X6_3 : Cond.methodLink RX6 3 objectInit ∈ lw_tbl := t_in 27 (by decide +kernel)
theorem fl_X6_9 : tFL RX6 9 6 0 := ⟨RX6, TX6, 6, rfl, by decide, in_X6, Or.inl (t_in 32 (by decide +kernel))⟩
theorem fp_X6_9 : tFP RX6 9 6 0 (.int) false := ⟨RX6, TX6, 6, tyX6, rfl, by decide, in_X6, tyX6_ok, nmX6, rfl, (by decide +kernel), Or.inl ⟨t_in 32 (by decide +kernel), fun h => nomatch h⟩⟩
theorem fl_X6_15 : tFL RX6 15 6 1 := ⟨RX6, TX6, 6, rfl, by decide, in_X6, Or.inl (t_in 34 (by decide +kernel))⟩
theorem fp_X6_15 : tFP RX6 15 6 1 (.array .long) true := ⟨RX6, TX6, 6, tyX6, rfl, by decide, in_X6, tyX6_ok, nmX6, rfl, (by decide +kernel), Or.inl ⟨t_in 34 (by decide +kernel), fun _ => rfl⟩⟩
theorem fl_X6_19 : tFL RX6 19 6 2 := ⟨RX6, TX6, 6, rfl, by decide, in_X6, Or.inl (t_in 36 (by decide +kernel))⟩
theorem fp_X6_19 : tFP RX6 19 6 2 (.long) false := ⟨RX6, TX6, 6, tyX6, rfl, by decide, in_X6, tyX6_ok, nmX6, rfl, (by decide +kernel), Or.inl ⟨t_in 36 (by decide +kernel), fun h => nomatch h⟩⟩
theorem fl_X6_23 : tFL RX6 23 6 3 := ⟨RX6, TX6, 6, rfl, by decide, in_X6, Or.inl (t_in 38 (by decide +kernel))⟩
theorem fp_X6_23 : tFP RX6 23 6 3 (.long) false := ⟨RX6, TX6, 6, tyX6, rfl, by decide, in_X6, tyX6_ok, nmX6, rfl, (by decide +kernel), Or.inl ⟨t_in 38 (by decide +kernel), fun h => nomatch h⟩⟩
theorem fl_X6_26 : tFL RX6 26 6 4 := ⟨RX6, TX6, 6, rfl, by decide, in_X6, Or.inl (t_in 40 (by decide +kernel))⟩
theorem fp_X6_26 : tFP RX6 26 6 4 (.array .int) true := ⟨RX6, TX6, 6, tyX6, rfl, by decide, in_X6, tyX6_ok, nmX6, rfl, (by decide +kernel), Or.inl ⟨t_in 40 (by decide +kernel), fun _ => rfl⟩⟩
theorem fl_X6_30 : tFL RX6 30 6 5 := ⟨RX6, TX6, 6, rfl, by decide, in_X6, Or.inl (t_in 42 (by decide +kernel))⟩
theorem fp_X6_30 : tFP RX6 30 6 5 (.int) false := ⟨RX6, TX6, 6, tyX6, rfl, by decide, in_X6, tyX6_ok, nmX6, rfl, (by decide +kernel), Or.inl ⟨t_in 42 (by decide +kernel), fun h => nomatch h⟩⟩
theorem kc_X6_33 : Cond.constantLong RX6 33 (-1) ∈ lw_tbl := t_in 28 (by decide +kernel)
theorem ml_X6_35 : tML RX6 35 yJ7_fill_d0a16 := Or.inl (t_in 29 (by decide +kernel))
theorem al_X6_41 : Cond.methodLink RX6 41 arraycopyName ∈ lw_tbl := t_in 709 (by decide +kernel)
theorem ml_X6_47 : tML RX6 47 yX7_isSlot := Or.inr ⟨"ReadOnceRecognizer", t_in 269 (by decide +kernel)⟩
theorem ml_X6_51 : tML RX6 51 yX6_holds := Or.inl (t_in 279 (by decide +kernel))
theorem fn_L_7 : tFN RL 7 7 11 [.null, .null, .int 0, .null, .null, .null, .null, .null, .null, .null, .null] := ⟨RX7, TX7, tyX7, rfl, in_X7, tyX7_ok, ⟨t_in 14 (by decide +kernel), t_in 15 (by decide +kernel), t_in 1 (by decide +kernel)⟩, fun j hj => by rcases (show j = 0 ∨ j = 1 ∨ j = 2 ∨ j = 3 ∨ j = 4 ∨ j = 5 ∨ j = 6 ∨ j = 7 ∨ j = 8 ∨ j = 9 ∨ j = 10 by omega) with rfl | rfl | rfl | rfl | rfl | rfl | rfl | rfl | rfl | rfl | rfl <;> rfl, fun _ _ => rfl⟩
theorem ml_L_9 : tML RL 9 yX7_init := Or.inl (t_in 16 (by decide +kernel))
theorem fn_L_10 : tFN RL 10 8 39 [.int 0, .int 0, .null, .null, .int 0, .null, .null, .null, .long 0, .long 0, .int 0, .null, .null, .int 0, .null, .int 0, .null, .null, .int 0, .int 0, .long 0, .long 0, .null, .null, .null, .null, .int 0, .int 0, .null, .null, .int 0, .int 0, .int 0, .int 0, .int 0, .null, .null, .null, .null] := ⟨RX8, TX8, tyX8, rfl, in_X8, tyX8_ok, ⟨t_in 731 (by decide +kernel), t_in 732 (by decide +kernel), t_in 9 (by decide +kernel)⟩, fun j hj => by rcases (show j = 0 ∨ j = 1 ∨ j = 2 ∨ j = 3 ∨ j = 4 ∨ j = 5 ∨ j = 6 ∨ j = 7 ∨ j = 8 ∨ j = 9 ∨ j = 10 ∨ j = 11 ∨ j = 12 ∨ j = 13 ∨ j = 14 ∨ j = 15 ∨ j = 16 ∨ j = 17 ∨ j = 18 ∨ j = 19 ∨ j = 20 ∨ j = 21 ∨ j = 22 ∨ j = 23 ∨ j = 24 ∨ j = 25 ∨ j = 26 ∨ j = 27 ∨ j = 28 ∨ j = 29 ∨ j = 30 ∨ j = 31 ∨ j = 32 ∨ j = 33 ∨ j = 34 ∨ j = 35 ∨ j = 36 ∨ j = 37 ∨ j = 38 by omega) with rfl | rfl | rfl | rfl | rfl | rfl | rfl | rfl | rfl | rfl | rfl | rfl | rfl | rfl | rfl | rfl | rfl | rfl | rfl | rfl | rfl | rfl | rfl | rfl | rfl | rfl | rfl | rfl | rfl | rfl | rfl | rfl | rfl | rfl | rfl | rfl | rfl | rfl | rfl <;> rfl, fun _ _ => rfl⟩
theorem ml_L_12 : tML RL 12 yX8_init := Or.inl (t_in 733 (by decide +kernel))
theorem ml_L_13 : tML RL 13 yX7_setVariables := Or.inl (t_in 213 (by decide +kernel))
theorem ml_L_17 : tML RL 17 yX8_setVariables := Or.inl (t_in 886 (by decide +kernel))
theorem ml_L_18 : tML RL 18 yX7_variables := Or.inl (t_in 225 (by decide +kernel))
theorem ml_L_22 : tML RL 22 yX8_variables := Or.inl (t_in 894 (by decide +kernel))
theorem kc_L_23 : Cond.constantLong RL 23 (4294967295) ∈ lw_tbl := t_in 1240 (by decide +kernel)
theorem ml_L_25 : tML RL 25 yX7_setTable := Or.inl (t_in 229 (by decide +kernel))
theorem ml_L_29 : tML RL 29 yX8_setTable := Or.inl (t_in 898 (by decide +kernel))
theorem ml_L_30 : tML RL 30 yX7_table := Or.inl (t_in 257 (by decide +kernel))
theorem ml_L_34 : tML RL 34 yX8_table := Or.inl (t_in 921 (by decide +kernel))
theorem ml_L_35 : tML RL 35 yX7_clear := Or.inl (t_in 270 (by decide +kernel))
theorem ml_L_38 : tML RL 38 yX8_clear := Or.inl (t_in 927 (by decide +kernel))
theorem ml_L_39 : tML RL 39 yX7_value := Or.inl (t_in 280 (by decide +kernel))
theorem ml_L_43 : tML RL 43 yX8_value := Or.inl (t_in 935 (by decide +kernel))
theorem ml_L_44 : tML RL 44 yX7_essential := Or.inl (t_in 295 (by decide +kernel))
theorem ml_L_47 : tML RL 47 yX8_essential := Or.inl (t_in 943 (by decide +kernel))
theorem ml_L_48 : tML RL 48 yX7_isMonotone := Or.inl (t_in 302 (by decide +kernel))
theorem ml_L_51 : tML RL 51 yX8_isMonotone := Or.inl (t_in 955 (by decide +kernel))
theorem ml_L_52 : tML RL 52 yX7_violatingPoint := Or.inl (t_in 312 (by decide +kernel))
theorem ml_L_55 : tML RL 55 yX8_violatingPoint := Or.inl (t_in 963 (by decide +kernel))
theorem ml_L_56 : tML RL 56 yX7_primeImplicants := Or.inl (t_in 316 (by decide +kernel))
theorem ml_L_59 : tML RL 59 yX8_primeImplicants := Or.inl (t_in 967 (by decide +kernel))
theorem ml_L_60 : tML RL 60 yX7_primeImplicant := Or.inl (t_in 341 (by decide +kernel))
theorem ml_L_63 : tML RL 63 yX8_primeImplicant := Or.inl (t_in 983 (by decide +kernel))
theorem ml_L_64 : tML RL 64 yX7_neighbors := Or.inl (t_in 350 (by decide +kernel))
theorem ml_L_67 : tML RL 67 yX8_neighbors := Or.inl (t_in 991 (by decide +kernel))
theorem ml_L_68 : tML RL 68 yX7_inducedPath := Or.inl (t_in 358 (by decide +kernel))
theorem ml_L_71 : tML RL 71 yX8_inducedPath := Or.inl (t_in 1003 (by decide +kernel))
theorem ml_L_72 : tML RL 72 yX7_badClique := Or.inl (t_in 378 (by decide +kernel))
theorem ml_L_75 : tML RL 75 yX8_badClique := Or.inl (t_in 1016 (by decide +kernel))
theorem ml_L_76 : tML RL 76 yX7_reason := Or.inl (t_in 394 (by decide +kernel))
theorem ml_L_79 : tML RL 79 yX8_reason := Or.inl (t_in 1032 (by decide +kernel))
theorem ml_L_80 : tML RL 80 yX7_nodes := Or.inl (t_in 402 (by decide +kernel))
theorem ml_L_83 : tML RL 83 yX8_nodes := Or.inl (t_in 1040 (by decide +kernel))
theorem ml_L_84 : tML RL 84 yX7_nodeType := Or.inl (t_in 433 (by decide +kernel))
theorem ml_L_87 : tML RL 87 yX8_nodeType := Or.inl (t_in 1056 (by decide +kernel))
theorem ml_L_88 : tML RL 88 yX7_parent := Or.inl (t_in 442 (by decide +kernel))
theorem ml_L_91 : tML RL 91 yX8_parent := Or.inl (t_in 1064 (by decide +kernel))
theorem ml_L_92 : tML RL 92 yX7_depth := Or.inl (t_in 446 (by decide +kernel))
theorem ml_L_95 : tML RL 95 yX8_depth := Or.inl (t_in 1068 (by decide +kernel))
theorem ml_L_96 : tML RL 96 yX7_writeFormula := Or.inl (t_in 459 (by decide +kernel))
theorem ml_L_99 : tML RL 99 yX8_writeFormula := Or.inl (t_in 1072 (by decide +kernel))
theorem ml_L_100 : tML RL 100 yX7_output := Or.inl (t_in 481 (by decide +kernel))
theorem ml_L_103 : tML RL 103 yX8_output := Or.inl (t_in 1084 (by decide +kernel))
theorem ml_L_104 : tML RL 104 yX7_feed := Or.inl (t_in 485 (by decide +kernel))
theorem ml_L_107 : tML RL 107 yX8_feed := Or.inl (t_in 1088 (by decide +kernel))
theorem ml_L_108 : tML RL 108 yX7_parse := Or.inl (t_in 493 (by decide +kernel))
theorem ml_L_111 : tML RL 111 yX8_parse := Or.inl (t_in 1093 (by decide +kernel))
theorem ml_L_112 : tML RL 112 yX7_combine := Or.inl (t_in 529 (by decide +kernel))
theorem ml_L_116 : tML RL 116 yX8_combine := Or.inl (t_in 1119 (by decide +kernel))
theorem ml_L_117 : tML RL 117 yX7_dual := Or.inl (t_in 536 (by decide +kernel))
theorem ml_L_120 : tML RL 120 yX8_dual := Or.inl (t_in 1124 (by decide +kernel))
theorem ml_L_121 : tML RL 121 yX7_cofactor := Or.inl (t_in 540 (by decide +kernel))
theorem ml_L_124 : tML RL 124 yX8_cofactor := Or.inl (t_in 1128 (by decide +kernel))
theorem ml_L_125 : tML RL 125 yX7_substitute := Or.inl (t_in 554 (by decide +kernel))
theorem ml_L_128 : tML RL 128 yX8_substitute := Or.inl (t_in 1132 (by decide +kernel))
theorem ml_L_129 : tML RL 129 yX7_exchange := Or.inl (t_in 558 (by decide +kernel))
theorem ml_L_132 : tML RL 132 yX8_exchange := Or.inl (t_in 1136 (by decide +kernel))
theorem ml_L_133 : tML RL 133 yX7_random := Or.inl (t_in 562 (by decide +kernel))
theorem ml_L_137 : tML RL 137 yX8_random := Or.inl (t_in 1140 (by decide +kernel))
theorem ml_L_138 : tML RL 138 yX7_readOnceTrials := Or.inl (t_in 574 (by decide +kernel))
theorem ml_L_141 : tML RL 141 yX8_readOnceTrials := Or.inl (t_in 1150 (by decide +kernel))
theorem ml_L_142 : tML RL 142 yX7_addSample := Or.inl (t_in 578 (by decide +kernel))
theorem ml_L_145 : tML RL 145 yX8_addSample := Or.inl (t_in 1155 (by decide +kernel))
theorem ml_L_146 : tML RL 146 yX7_removeSample := Or.inl (t_in 582 (by decide +kernel))
theorem ml_L_149 : tML RL 149 yX8_removeSample := Or.inl (t_in 1159 (by decide +kernel))
theorem ml_L_150 : tML RL 150 yX7_extensions := Or.inl (t_in 586 (by decide +kernel))
theorem ml_L_153 : tML RL 153 yX8_extensions := Or.inl (t_in 1163 (by decide +kernel))
theorem ml_L_154 : tML RL 154 yX7_extension := Or.inl (t_in 657 (by decide +kernel))
theorem ml_L_157 : tML RL 157 yX8_extension := Or.inl (t_in 1171 (by decide +kernel))
theorem ml_L_158 : tML RL 158 yX7_simplestExtension := Or.inl (t_in 661 (by decide +kernel))
theorem ml_L_162 : tML RL 162 yX8_simplestExtension := Or.inl (t_in 1175 (by decide +kernel))
theorem ml_L_163 : tML RL 163 yX7_readOnceCount := Or.inl (t_in 666 (by decide +kernel))
theorem ml_L_166 : tML RL 166 yX8_readOnceCount := Or.inl (t_in 1179 (by decide +kernel))
theorem ml_L_167 : tML RL 167 yX7_addStep := Or.inl (t_in 670 (by decide +kernel))
theorem ml_L_170 : tML RL 170 yX8_addStep := Or.inl (t_in 1183 (by decide +kernel))
theorem ml_L_171 : tML RL 171 yX7_clearSteps := Or.inl (t_in 678 (by decide +kernel))
theorem ml_L_174 : tML RL 174 yX8_clearSteps := Or.inl (t_in 1187 (by decide +kernel))
theorem ml_L_175 : tML RL 175 yX7_runSteps := Or.inl (t_in 682 (by decide +kernel))
theorem ml_L_178 : tML RL 178 yX8_runSteps := Or.inl (t_in 1191 (by decide +kernel))
theorem ml_L_179 : tML RL 179 yX7_undo := Or.inl (t_in 693 (by decide +kernel))
theorem ml_L_182 : tML RL 182 yX8_undo := Or.inl (t_in 1202 (by decide +kernel))
theorem ml_L_183 : tML RL 183 yX7_save := Or.inl (t_in 701 (by decide +kernel))
theorem ml_L_186 : tML RL 186 yX8_save := Or.inl (t_in 1206 (by decide +kernel))
theorem ml_L_187 : tML RL 187 yX7_restore := Or.inl (t_in 710 (by decide +kernel))
theorem ml_L_190 : tML RL 190 yX8_restore := Or.inl (t_in 1210 (by decide +kernel))
theorem ml_L_191 : tML RL 191 yX7_createArray := Or.inl (t_in 714 (by decide +kernel))
theorem ml_L_194 : tML RL 194 yX8_createArray := Or.inl (t_in 1215 (by decide +kernel))
theorem ml_L_195 : tML RL 195 yX7_setElement := Or.inl (t_in 718 (by decide +kernel))
theorem ml_L_198 : tML RL 198 yX8_setElement := Or.inl (t_in 1222 (by decide +kernel))
theorem ml_L_199 : tML RL 199 yX7_element := Or.inl (t_in 722 (by decide +kernel))
theorem ml_L_203 : tML RL 203 yX8_element := Or.inl (t_in 1226 (by decide +kernel))
theorem ml_L_204 : tML RL 204 yX7_compare := Or.inl (t_in 727 (by decide +kernel))
theorem ml_L_207 : tML RL 207 yX8_compare := Or.inl (t_in 1231 (by decide +kernel))
theorem ml_L_208 : tML RL 208 yX7_usedSlots := Or.inl (t_in 291 (by decide +kernel))
theorem ml_L_211 : tML RL 211 yX8_usedSlots := Or.inl (t_in 1235 (by decide +kernel))
theorem ml_L_212 : tML RL 212 yX7_undoable := Or.inl (t_in 697 (by decide +kernel))
theorem ml_L_215 : tML RL 215 yX8_undoable := Or.inl (t_in 1236 (by decide +kernel))
theorem ol_X8_1 : Cond.methodLink RX8 1 objectInit ∈ lw_tbl := t_in 736 (by decide +kernel)
theorem fl_X8_7 : tFL RX8 7 8 0 := ⟨RX8, TX8, 39, rfl, by decide, in_X8, Or.inl (t_in 767 (by decide +kernel))⟩
theorem fp_X8_7 : tFP RX8 7 8 0 (.int) false := ⟨RX8, TX8, 39, tyX8, rfl, by decide, in_X8, tyX8_ok, nmX8, rfl, (by decide +kernel), Or.inl ⟨t_in 767 (by decide +kernel), fun h => nomatch h⟩⟩
theorem fl_X8_13 : tFL RX8 13 8 1 := ⟨RX8, TX8, 39, rfl, by decide, in_X8, Or.inl (t_in 768 (by decide +kernel))⟩
theorem fp_X8_13 : tFP RX8 13 8 1 (.int) false := ⟨RX8, TX8, 39, tyX8, rfl, by decide, in_X8, tyX8_ok, nmX8, rfl, (by decide +kernel), Or.inl ⟨t_in 768 (by decide +kernel), fun h => nomatch h⟩⟩
theorem fl_X8_16 : tFL RX8 16 8 2 := ⟨RX8, TX8, 39, rfl, by decide, in_X8, Or.inl (t_in 769 (by decide +kernel))⟩
theorem fp_X8_16 : tFP RX8 16 8 2 (.array .long) true := ⟨RX8, TX8, 39, tyX8, rfl, by decide, in_X8, tyX8_ok, nmX8, rfl, (by decide +kernel), Or.inl ⟨t_in 769 (by decide +kernel), fun _ => rfl⟩⟩
theorem fl_X8_20 : tFL RX8 20 8 3 := ⟨RX8, TX8, 39, rfl, by decide, in_X8, Or.inl (t_in 770 (by decide +kernel))⟩
theorem fp_X8_20 : tFP RX8 20 8 3 (.array .boolean) true := ⟨RX8, TX8, 39, tyX8, rfl, by decide, in_X8, tyX8_ok, nmX8, rfl, (by decide +kernel), Or.inl ⟨t_in 770 (by decide +kernel), fun _ => rfl⟩⟩
theorem fl_X8_24 : tFL RX8 24 8 5 := ⟨RX8, TX8, 39, rfl, by decide, in_X8, Or.inl (t_in 772 (by decide +kernel))⟩
theorem fp_X8_24 : tFP RX8 24 8 5 (.array .int) true := ⟨RX8, TX8, 39, tyX8, rfl, by decide, in_X8, tyX8_ok, nmX8, rfl, (by decide +kernel), Or.inl ⟨t_in 772 (by decide +kernel), fun _ => rfl⟩⟩
theorem fl_X8_28 : tFL RX8 28 8 6 := ⟨RX8, TX8, 39, rfl, by decide, in_X8, Or.inl (t_in 773 (by decide +kernel))⟩
theorem fp_X8_28 : tFP RX8 28 8 6 (.array .long) true := ⟨RX8, TX8, 39, tyX8, rfl, by decide, in_X8, tyX8_ok, nmX8, rfl, (by decide +kernel), Or.inl ⟨t_in 773 (by decide +kernel), fun _ => rfl⟩⟩
theorem fl_X8_31 : tFL RX8 31 8 7 := ⟨RX8, TX8, 39, rfl, by decide, in_X8, Or.inl (t_in 774 (by decide +kernel))⟩
theorem fp_X8_31 : tFP RX8 31 8 7 (.array .boolean) true := ⟨RX8, TX8, 39, tyX8, rfl, by decide, in_X8, tyX8_ok, nmX8, rfl, (by decide +kernel), Or.inl ⟨t_in 774 (by decide +kernel), fun _ => rfl⟩⟩
theorem fl_X8_34 : tFL RX8 34 8 11 := ⟨RX8, TX8, 39, rfl, by decide, in_X8, Or.inl (t_in 778 (by decide +kernel))⟩
theorem fp_X8_34 : tFP RX8 34 8 11 (.array .int) true := ⟨RX8, TX8, 39, tyX8, rfl, by decide, in_X8, tyX8_ok, nmX8, rfl, (by decide +kernel), Or.inl ⟨t_in 778 (by decide +kernel), fun _ => rfl⟩⟩
theorem fl_X8_37 : tFL RX8 37 8 12 := ⟨RX8, TX8, 39, rfl, by decide, in_X8, Or.inl (t_in 779 (by decide +kernel))⟩
theorem fp_X8_37 : tFP RX8 37 8 12 (.array .int) true := ⟨RX8, TX8, 39, tyX8, rfl, by decide, in_X8, tyX8_ok, nmX8, rfl, (by decide +kernel), Or.inl ⟨t_in 779 (by decide +kernel), fun _ => rfl⟩⟩
theorem fl_X8_40 : tFL RX8 40 8 14 := ⟨RX8, TX8, 39, rfl, by decide, in_X8, Or.inl (t_in 781 (by decide +kernel))⟩
theorem fp_X8_40 : tFP RX8 40 8 14 (.array .int) true := ⟨RX8, TX8, 39, tyX8, rfl, by decide, in_X8, tyX8_ok, nmX8, rfl, (by decide +kernel), Or.inl ⟨t_in 781 (by decide +kernel), fun _ => rfl⟩⟩
theorem fl_X8_43 : tFL RX8 43 8 16 := ⟨RX8, TX8, 39, rfl, by decide, in_X8, Or.inl (t_in 783 (by decide +kernel))⟩
theorem fp_X8_43 : tFP RX8 43 8 16 (.array .int) true := ⟨RX8, TX8, 39, tyX8, rfl, by decide, in_X8, tyX8_ok, nmX8, rfl, (by decide +kernel), Or.inl ⟨t_in 783 (by decide +kernel), fun _ => rfl⟩⟩
theorem fl_X8_46 : tFL RX8 46 8 17 := ⟨RX8, TX8, 39, rfl, by decide, in_X8, Or.inl (t_in 784 (by decide +kernel))⟩
theorem fp_X8_46 : tFP RX8 46 8 17 (.array .int) true := ⟨RX8, TX8, 39, tyX8, rfl, by decide, in_X8, tyX8_ok, nmX8, rfl, (by decide +kernel), Or.inl ⟨t_in 784 (by decide +kernel), fun _ => rfl⟩⟩
theorem fl_X8_49 : tFL RX8 49 8 18 := ⟨RX8, TX8, 39, rfl, by decide, in_X8, Or.inl (t_in 785 (by decide +kernel))⟩
theorem fp_X8_49 : tFP RX8 49 8 18 (.int) false := ⟨RX8, TX8, 39, tyX8, rfl, by decide, in_X8, tyX8_ok, nmX8, rfl, (by decide +kernel), Or.inl ⟨t_in 785 (by decide +kernel), fun h => nomatch h⟩⟩
theorem fl_X8_52 : tFL RX8 52 8 22 := ⟨RX8, TX8, 39, rfl, by decide, in_X8, Or.inl (t_in 789 (by decide +kernel))⟩
theorem fp_X8_52 : tFP RX8 52 8 22 (.array .long) true := ⟨RX8, TX8, 39, tyX8, rfl, by decide, in_X8, tyX8_ok, nmX8, rfl, (by decide +kernel), Or.inl ⟨t_in 789 (by decide +kernel), fun _ => rfl⟩⟩
theorem fl_X8_55 : tFL RX8 55 8 23 := ⟨RX8, TX8, 39, rfl, by decide, in_X8, Or.inl (t_in 790 (by decide +kernel))⟩
theorem fp_X8_55 : tFP RX8 55 8 23 (.array .boolean) true := ⟨RX8, TX8, 39, tyX8, rfl, by decide, in_X8, tyX8_ok, nmX8, rfl, (by decide +kernel), Or.inl ⟨t_in 790 (by decide +kernel), fun _ => rfl⟩⟩
theorem fl_X8_58 : tFL RX8 58 8 24 := ⟨RX8, TX8, 39, rfl, by decide, in_X8, Or.inl (t_in 791 (by decide +kernel))⟩
theorem fp_X8_58 : tFP RX8 58 8 24 (.array .int) true := ⟨RX8, TX8, 39, tyX8, rfl, by decide, in_X8, tyX8_ok, nmX8, rfl, (by decide +kernel), Or.inl ⟨t_in 791 (by decide +kernel), fun _ => rfl⟩⟩
theorem fl_X8_61 : tFL RX8 61 8 25 := ⟨RX8, TX8, 39, rfl, by decide, in_X8, Or.inl (t_in 792 (by decide +kernel))⟩
theorem fp_X8_61 : tFP RX8 61 8 25 (.array .int) true := ⟨RX8, TX8, 39, tyX8, rfl, by decide, in_X8, tyX8_ok, nmX8, rfl, (by decide +kernel), Or.inl ⟨t_in 792 (by decide +kernel), fun _ => rfl⟩⟩
theorem fl_X8_64 : tFL RX8 64 8 28 := ⟨RX8, TX8, 39, rfl, by decide, in_X8, Or.inl (t_in 795 (by decide +kernel))⟩
theorem fp_X8_64 : tFP RX8 64 8 28 (.array .int) true := ⟨RX8, TX8, 39, tyX8, rfl, by decide, in_X8, tyX8_ok, nmX8, rfl, (by decide +kernel), Or.inl ⟨t_in 795 (by decide +kernel), fun _ => rfl⟩⟩
theorem fl_X8_67 : tFL RX8 67 8 29 := ⟨RX8, TX8, 39, rfl, by decide, in_X8, Or.inl (t_in 796 (by decide +kernel))⟩
theorem fp_X8_67 : tFP RX8 67 8 29 (.array .int) true := ⟨RX8, TX8, 39, tyX8, rfl, by decide, in_X8, tyX8_ok, nmX8, rfl, (by decide +kernel), Or.inl ⟨t_in 796 (by decide +kernel), fun _ => rfl⟩⟩
theorem fl_X8_70 : tFL RX8 70 8 35 := ⟨RX8, TX8, 39, rfl, by decide, in_X8, Or.inl (t_in 802 (by decide +kernel))⟩
theorem fp_X8_70 : tFP RX8 70 8 35 (.array .long) true := ⟨RX8, TX8, 39, tyX8, rfl, by decide, in_X8, tyX8_ok, nmX8, rfl, (by decide +kernel), Or.inl ⟨t_in 802 (by decide +kernel), fun _ => rfl⟩⟩
theorem fl_X8_73 : tFL RX8 73 8 36 := ⟨RX8, TX8, 39, rfl, by decide, in_X8, Or.inl (t_in 803 (by decide +kernel))⟩
theorem fp_X8_73 : tFP RX8 73 8 36 (.array .long) true := ⟨RX8, TX8, 39, tyX8, rfl, by decide, in_X8, tyX8_ok, nmX8, rfl, (by decide +kernel), Or.inl ⟨t_in 803 (by decide +kernel), fun _ => rfl⟩⟩
theorem fl_X8_76 : tFL RX8 76 8 37 := ⟨RX8, TX8, 39, rfl, by decide, in_X8, Or.inl (t_in 804 (by decide +kernel))⟩
theorem fp_X8_76 : tFP RX8 76 8 37 (.array .int) true := ⟨RX8, TX8, 39, tyX8, rfl, by decide, in_X8, tyX8_ok, nmX8, rfl, (by decide +kernel), Or.inl ⟨t_in 804 (by decide +kernel), fun _ => rfl⟩⟩
theorem fl_X8_79 : tFL RX8 79 8 38 := ⟨RX8, TX8, 39, rfl, by decide, in_X8, Or.inl (t_in 805 (by decide +kernel))⟩
theorem fp_X8_79 : tFP RX8 79 8 38 (.array .int) true := ⟨RX8, TX8, 39, tyX8, rfl, by decide, in_X8, tyX8_ok, nmX8, rfl, (by decide +kernel), Or.inl ⟨t_in 805 (by decide +kernel), fun _ => rfl⟩⟩
theorem ml_X8_82 : tML RX8 82 yX8_listFunctions := Or.inl (t_in 737 (by decide +kernel))
theorem kc_X8_85 : Cond.constantLong RX8 85 (7) ∈ lw_tbl := t_in 905 (by decide +kernel)
theorem ml_X8_87 : tML RX8 87 yX8_isIn := Or.inl (t_in 891 (by decide +kernel))
theorem ml_X8_91 : tML RX8 91 yX8_at := Or.inl (t_in 918 (by decide +kernel))
theorem fl_X8_95 : tFL RX8 95 8 4 := ⟨RX8, TX8, 39, rfl, by decide, in_X8, Or.inl (t_in 771 (by decide +kernel))⟩
theorem fp_X8_95 : tFP RX8 95 8 4 (.int) false := ⟨RX8, TX8, 39, tyX8, rfl, by decide, in_X8, tyX8_ok, nmX8, rfl, (by decide +kernel), Or.inl ⟨t_in 771 (by decide +kernel), fun h => nomatch h⟩⟩
theorem ml_X8_98 : tML RX8 98 yX8_record := Or.inl (t_in 910 (by decide +kernel))
theorem ml_X8_102 : tML RX8 102 yX8_ones := Or.inl (t_in 914 (by decide +kernel))
theorem kc_X8_106 : Cond.constantLong RX8 106 (5) ∈ lw_tbl := t_in 890 (by decide +kernel)
theorem fl_X8_108 : tFL RX8 108 8 8 := ⟨RX8, TX8, 39, rfl, by decide, in_X8, Or.inl (t_in 775 (by decide +kernel))⟩
theorem fp_X8_108 : tFP RX8 108 8 8 (.long) false := ⟨RX8, TX8, 39, tyX8, rfl, by decide, in_X8, tyX8_ok, nmX8, rfl, (by decide +kernel), Or.inl ⟨t_in 775 (by decide +kernel), fun h => nomatch h⟩⟩
theorem fl_X8_112 : tFL RX8 112 8 9 := ⟨RX8, TX8, 39, rfl, by decide, in_X8, Or.inl (t_in 776 (by decide +kernel))⟩
theorem fp_X8_112 : tFP RX8 112 8 9 (.long) false := ⟨RX8, TX8, 39, tyX8, rfl, by decide, in_X8, tyX8_ok, nmX8, rfl, (by decide +kernel), Or.inl ⟨t_in 776 (by decide +kernel), fun h => nomatch h⟩⟩
theorem fl_X8_115 : tFL RX8 115 8 10 := ⟨RX8, TX8, 39, rfl, by decide, in_X8, Or.inl (t_in 777 (by decide +kernel))⟩
theorem fp_X8_115 : tFP RX8 115 8 10 (.int) false := ⟨RX8, TX8, 39, tyX8, rfl, by decide, in_X8, tyX8_ok, nmX8, rfl, (by decide +kernel), Or.inl ⟨t_in 777 (by decide +kernel), fun h => nomatch h⟩⟩
theorem ml_X8_118 : tML RX8 118 yX8_isSlot := Or.inl (t_in 902 (by decide +kernel))
theorem ml_X8_122 : tML RX8 122 yX8_store := Or.inl (t_in 906 (by decide +kernel))
theorem kc_X8_126 : Cond.constantLong RX8 126 (-2) ∈ lw_tbl := t_in 925 (by decide +kernel)
theorem kc_X8_128 : Cond.constantLong RX8 128 (-3) ∈ lw_tbl := t_in 926 (by decide +kernel)
theorem ml_X8_130 : tML RX8 130 yX8_usedSlots := Or.inl (t_in 931 (by decide +kernel))
theorem ml_X8_134 : tML RX8 134 yX8_isPoint := Or.inl (t_in 939 (by decide +kernel))
theorem ml_X8_137 : tML RX8 137 yX8_wrong := Or.inl (t_in 947 (by decide +kernel))
theorem ml_X8_141 : tML RX8 141 yX8_essentialOf := Or.inl (t_in 951 (by decide +kernel))
theorem ml_X8_144 : tML RX8 144 yX8_violation := Or.inl (t_in 959 (by decide +kernel))
theorem ml_X8_147 : tML RX8 147 yX8_isPrime := Or.inl (t_in 979 (by decide +kernel))
theorem ml_X8_150 : tML RX8 150 yX8_wrongOrNot := Or.inl (t_in 971 (by decide +kernel))
theorem ml_X8_153 : tML RX8 153 yX8_primesOf := Or.inl (t_in 975 (by decide +kernel))
theorem ml_X8_156 : tML RX8 156 yX8_primeOf := Or.inl (t_in 987 (by decide +kernel))
theorem fl_X8_160 : tFL RX8 160 8 26 := ⟨RX8, TX8, 39, rfl, by decide, in_X8, Or.inl (t_in 793 (by decide +kernel))⟩
theorem fp_X8_160 : tFP RX8 160 8 26 (.int) false := ⟨RX8, TX8, 39, tyX8, rfl, by decide, in_X8, tyX8_ok, nmX8, rfl, (by decide +kernel), Or.inl ⟨t_in 793 (by decide +kernel), fun h => nomatch h⟩⟩
theorem ml_X8_163 : tML RX8 163 yX8_isVariable := Or.inl (t_in 995 (by decide +kernel))
theorem ml_X8_166 : tML RX8 166 yX8_graph := Or.inl (t_in 999 (by decide +kernel))
theorem ml_X8_170 : tML RX8 170 yX8_areNear := Or.inl (t_in 1012 (by decide +kernel))
theorem kc_X8_174 : Cond.constantLong RX8 174 (3) ∈ lw_tbl := t_in 1007 (by decide +kernel)
theorem ml_X8_176 : tML RX8 176 yX8_path := Or.inl (t_in 1008 (by decide +kernel))
theorem ml_X8_179 : tML RX8 179 yX8_isClique := Or.inl (t_in 1024 (by decide +kernel))
theorem ml_X8_182 : tML RX8 182 yX8_isMaximal := Or.inl (t_in 1028 (by decide +kernel))
theorem ml_X8_185 : tML RX8 185 yX8_badCliqueOf := Or.inl (t_in 1020 (by decide +kernel))
theorem ml_X8_188 : tML RX8 188 yX8_reasonOf := Or.inl (t_in 1036 (by decide +kernel))
theorem fl_X8_191 : tFL RX8 191 8 27 := ⟨RX8, TX8, 39, rfl, by decide, in_X8, Or.inl (t_in 794 (by decide +kernel))⟩
theorem fp_X8_191 : tFP RX8 191 8 27 (.int) false := ⟨RX8, TX8, 39, tyX8, rfl, by decide, in_X8, tyX8_ok, nmX8, rfl, (by decide +kernel), Or.inl ⟨t_in 794 (by decide +kernel), fun h => nomatch h⟩⟩
theorem ml_X8_194 : tML RX8 194 yX8_bits := Or.inl (t_in 749 (by decide +kernel))
theorem ml_X8_197 : tML RX8 197 yX8_lowest := Or.inl (t_in 756 (by decide +kernel))
theorem ml_X8_200 : tML RX8 200 yX8_component := Or.inl (t_in 1052 (by decide +kernel))
theorem ml_X8_204 : tML RX8 204 yX8_grow := Or.inl (t_in 1048 (by decide +kernel))
theorem ml_X8_208 : tML RX8 208 yX8_tree := Or.inl (t_in 1044 (by decide +kernel))
theorem ml_X8_211 : tML RX8 211 yX8_isNode := Or.inl (t_in 1060 (by decide +kernel))
theorem fl_X8_214 : tFL RX8 214 8 15 := ⟨RX8, TX8, 39, rfl, by decide, in_X8, Or.inl (t_in 782 (by decide +kernel))⟩
theorem fp_X8_214 : tFP RX8 214 8 15 (.int) false := ⟨RX8, TX8, 39, tyX8, rfl, by decide, in_X8, tyX8_ok, nmX8, rfl, (by decide +kernel), Or.inl ⟨t_in 782 (by decide +kernel), fun h => nomatch h⟩⟩
theorem ml_X8_217 : tML RX8 217 yX8_put := Or.inl (t_in 1076 (by decide +kernel))
theorem ml_X8_220 : tML RX8 220 yX8_write := Or.inl (t_in 1080 (by decide +kernel))
theorem kc_X8_223 : Cond.constantLong RX8 223 (127) ∈ lw_tbl := t_in 1092 (by decide +kernel)
theorem fl_X8_225 : tFL RX8 225 8 13 := ⟨RX8, TX8, 39, rfl, by decide, in_X8, Or.inl (t_in 780 (by decide +kernel))⟩
theorem fp_X8_225 : tFP RX8 225 8 13 (.int) false := ⟨RX8, TX8, 39, tyX8, rfl, by decide, in_X8, tyX8_ok, nmX8, rfl, (by decide +kernel), Or.inl ⟨t_in 780 (by decide +kernel), fun h => nomatch h⟩⟩
theorem fl_X8_228 : tFL RX8 228 8 30 := ⟨RX8, TX8, 39, rfl, by decide, in_X8, Or.inl (t_in 797 (by decide +kernel))⟩
theorem fp_X8_228 : tFP RX8 228 8 30 (.int) false := ⟨RX8, TX8, 39, tyX8, rfl, by decide, in_X8, tyX8_ok, nmX8, rfl, (by decide +kernel), Or.inl ⟨t_in 797 (by decide +kernel), fun h => nomatch h⟩⟩
theorem fl_X8_231 : tFL RX8 231 8 31 := ⟨RX8, TX8, 39, rfl, by decide, in_X8, Or.inl (t_in 798 (by decide +kernel))⟩
theorem fp_X8_231 : tFP RX8 231 8 31 (.int) false := ⟨RX8, TX8, 39, tyX8, rfl, by decide, in_X8, tyX8_ok, nmX8, rfl, (by decide +kernel), Or.inl ⟨t_in 798 (by decide +kernel), fun h => nomatch h⟩⟩
theorem ml_X8_234 : tML RX8 234 yX8_here := Or.inl (t_in 1109 (by decide +kernel))
theorem kc_X8_237 : Cond.constantLong RX8 237 (97) ∈ lw_tbl := t_in 1113 (by decide +kernel)
theorem fl_X8_239 : tFL RX8 239 8 32 := ⟨RX8, TX8, 39, rfl, by decide, in_X8, Or.inl (t_in 799 (by decide +kernel))⟩
theorem fp_X8_239 : tFP RX8 239 8 32 (.int) false := ⟨RX8, TX8, 39, tyX8, rfl, by decide, in_X8, tyX8_ok, nmX8, rfl, (by decide +kernel), Or.inl ⟨t_in 799 (by decide +kernel), fun h => nomatch h⟩⟩
theorem ml_X8_242 : tML RX8 242 yX8_variable := Or.inl (t_in 741 (by decide +kernel))
theorem ml_X8_246 : tML RX8 246 yX8_all := Or.inl (t_in 763 (by decide +kernel))
theorem ml_X8_250 : tML RX8 250 yX8_fail := Or.inl (t_in 1114 (by decide +kernel))
theorem ml_X8_253 : tML RX8 253 yX8_factor := Or.inl (t_in 1105 (by decide +kernel))
theorem kc_X8_256 : Cond.constantLong RX8 256 (-1) ∈ lw_tbl := t_in 1118 (by decide +kernel)
theorem ml_X8_258 : tML RX8 258 yX8_formula := Or.inl (t_in 1097 (by decide +kernel))
theorem ml_X8_261 : tML RX8 261 yX8_term := Or.inl (t_in 1101 (by decide +kernel))
theorem kc_X8_264 : Cond.constantLong RX8 264 (2) ∈ lw_tbl := t_in 1123 (by decide +kernel)
theorem kc_X8_266 : Cond.constant RX8 266 (1103515245) ∈ lw_tbl := t_in 1149 (by decide +kernel)
theorem kc_X8_267 : Cond.constantLong RX8 267 (12) ∈ lw_tbl := t_in 1144 (by decide +kernel)
theorem ml_X8_269 : tML RX8 269 yX8_randomOf := Or.inl (t_in 1145 (by decide +kernel))
theorem kc_X8_273 : Cond.constantLong RX8 273 (30) ∈ lw_tbl := t_in 1154 (by decide +kernel)
theorem fl_X8_275 : tFL RX8 275 8 34 := ⟨RX8, TX8, 39, rfl, by decide, in_X8, Or.inl (t_in 801 (by decide +kernel))⟩
theorem fp_X8_275 : tFP RX8 275 8 34 (.int) false := ⟨RX8, TX8, 39, tyX8, rfl, by decide, in_X8, tyX8_ok, nmX8, rfl, (by decide +kernel), Or.inl ⟨t_in 801 (by decide +kernel), fun h => nomatch h⟩⟩
theorem ml_X8_278 : tML RX8 278 yX8_make := Or.inl (t_in 745 (by decide +kernel))
theorem ml_X8_282 : tML RX8 282 yX8_join := Or.inl (t_in 752 (by decide +kernel))
theorem fl_X8_286 : tFL RX8 286 8 33 := ⟨RX8, TX8, 39, rfl, by decide, in_X8, Or.inl (t_in 800 (by decide +kernel))⟩
theorem fp_X8_286 : tFP RX8 286 8 33 (.int) false := ⟨RX8, TX8, 39, tyX8, rfl, by decide, in_X8, tyX8_ok, nmX8, rfl, (by decide +kernel), Or.inl ⟨t_in 800 (by decide +kernel), fun h => nomatch h⟩⟩
theorem ml_X8_289 : tML RX8 289 yX8_insert := Or.inl (t_in 759 (by decide +kernel))
theorem ml_X8_292 : tML RX8 292 yX8_agrees := Or.inl (t_in 1167 (by decide +kernel))
theorem ml_X8_296 : tML RX8 296 yX8_combine := Or.inl (t_in 1199 (by decide +kernel))
theorem ml_X8_300 : tML RX8 300 yX8_dual := Or.inl (t_in 1200 (by decide +kernel))
theorem ml_X8_304 : tML RX8 304 yX8_cofactor := Or.inl (t_in 1201 (by decide +kernel))
theorem ml_X8_307 : tML RX8 307 yX8_execute := Or.inl (t_in 1195 (by decide +kernel))
theorem fl_X8_310 : tFL RX8 310 8 19 := ⟨RX8, TX8, 39, rfl, by decide, in_X8, Or.inl (t_in 786 (by decide +kernel))⟩
theorem fp_X8_310 : tFP RX8 310 8 19 (.int) false := ⟨RX8, TX8, 39, tyX8, rfl, by decide, in_X8, tyX8_ok, nmX8, rfl, (by decide +kernel), Or.inl ⟨t_in 786 (by decide +kernel), fun h => nomatch h⟩⟩
theorem fl_X8_313 : tFL RX8 313 8 20 := ⟨RX8, TX8, 39, rfl, by decide, in_X8, Or.inl (t_in 787 (by decide +kernel))⟩
theorem fp_X8_313 : tFP RX8 313 8 20 (.long) false := ⟨RX8, TX8, 39, tyX8, rfl, by decide, in_X8, tyX8_ok, nmX8, rfl, (by decide +kernel), Or.inl ⟨t_in 787 (by decide +kernel), fun h => nomatch h⟩⟩
theorem fl_X8_316 : tFL RX8 316 8 21 := ⟨RX8, TX8, 39, rfl, by decide, in_X8, Or.inl (t_in 788 (by decide +kernel))⟩
theorem fp_X8_316 : tFP RX8 316 8 21 (.long) false := ⟨RX8, TX8, 39, tyX8, rfl, by decide, in_X8, tyX8_ok, nmX8, rfl, (by decide +kernel), Or.inl ⟨t_in 788 (by decide +kernel), fun h => nomatch h⟩⟩
theorem ml_X8_319 : tML RX8 319 yX8_setVariables := Or.inl (t_in 1214 (by decide +kernel))
theorem ml_X8_322 : tML RX8 322 yX8_isArray := Or.inl (t_in 1219 (by decide +kernel))
theorem kc_X8_327 : Cond.constantLong RX8 327 (-9223372036854775808) ∈ lw_tbl := t_in 1230 (by decide +kernel)
theorem kc_J6_265 : Cond.constant RJ6 265 (1431655765) ∈ lw_tbl := t_in 421 (by decide +kernel)
theorem kc_J6_266 : Cond.constant RJ6 266 (858993459) ∈ lw_tbl := t_in 422 (by decide +kernel)
theorem kc_J6_267 : Cond.constant RJ6 267 (252645135) ∈ lw_tbl := t_in 423 (by decide +kernel)
theorem kc_J13_314 : Cond.constantLong RJ13 314 (6148914691236517205) ∈ lw_tbl := t_in 254 (by decide +kernel)
theorem kc_J13_316 : Cond.constantLong RJ13 316 (3689348814741910323) ∈ lw_tbl := t_in 255 (by decide +kernel)
theorem kc_J13_318 : Cond.constantLong RJ13 318 (1085102592571150095) ∈ lw_tbl := t_in 256 (by decide +kernel)
theorem tm_X0_init : tM yX0_init cX0_init 3 none 0 := ⟨t_in 598 (by decide +kernel), ⟨by decide +kernel, by decide +kernel, by decide +kernel⟩, t_in 13 (by decide +kernel), by decide⟩
theorem ti_X0_init : Cond.instanceMethod yX0_init ∈ lw_tbl := t_in 597 (by decide +kernel)
theorem tm_X0_tableAt : tM yX0_tableAt cX0_tableAt 2 (some .long) 1 := ⟨t_in 619 (by decide +kernel), ⟨by decide +kernel, by decide +kernel, by decide +kernel⟩, t_in 13 (by decide +kernel), by decide⟩
theorem ti_X0_tableAt : Cond.instanceMethod yX0_tableAt ∈ lw_tbl ∧ Cond.selects (yX0_tableAt).cls yX0_tableAt yX0_tableAt ∈ lw_tbl := ⟨t_in 617 (by decide +kernel), t_in 618 (by decide +kernel)⟩
theorem tm_X0_supportAt : tM yX0_supportAt cX0_supportAt 2 (some .int) 1 := ⟨t_in 656 (by decide +kernel), ⟨by decide +kernel, by decide +kernel, by decide +kernel⟩, t_in 13 (by decide +kernel), by decide⟩
theorem ti_X0_supportAt : Cond.instanceMethod yX0_supportAt ∈ lw_tbl ∧ Cond.selects (yX0_supportAt).cls yX0_supportAt yX0_supportAt ∈ lw_tbl := ⟨t_in 654 (by decide +kernel), t_in 655 (by decide +kernel)⟩
theorem tm_X0_rootAt : tM yX0_rootAt cX0_rootAt 2 (some .int) 1 := ⟨t_in 625 (by decide +kernel), ⟨by decide +kernel, by decide +kernel, by decide +kernel⟩, t_in 13 (by decide +kernel), by decide⟩
theorem ti_X0_rootAt : Cond.instanceMethod yX0_rootAt ∈ lw_tbl ∧ Cond.selects (yX0_rootAt).cls yX0_rootAt yX0_rootAt ∈ lw_tbl := ⟨t_in 624 (by decide +kernel), t_inS 29 (by decide +kernel)⟩
theorem tm_X0_enter : tM yX0_enter cX0_enter 5 none 3 := ⟨t_in 603 (by decide +kernel), ⟨by decide +kernel, by decide +kernel, by decide +kernel⟩, t_in 13 (by decide +kernel), by decide⟩
theorem ti_X0_enter : Cond.instanceMethod yX0_enter ∈ lw_tbl ∧ Cond.selects (yX0_enter).cls yX0_enter yX0_enter ∈ lw_tbl := ⟨t_in 602 (by decide +kernel), t_inS 26 (by decide +kernel)⟩
theorem tm_X0_enterAll : tM yX0_enterAll cX0_enterAll 5 none 2 := ⟨t_in 608 (by decide +kernel), ⟨by decide +kernel, by decide +kernel, by decide +kernel⟩, t_in 13 (by decide +kernel), by decide⟩
theorem ti_X0_enterAll : Cond.instanceMethod yX0_enterAll ∈ lw_tbl ∧ Cond.selects (yX0_enterAll).cls yX0_enterAll yX0_enterAll ∈ lw_tbl := ⟨t_in 607 (by decide +kernel), t_inS 27 (by decide +kernel)⟩
theorem tm_X0_enterSplit : tM yX0_enterSplit cX0_enterSplit 6 none 3 := ⟨t_in 615 (by decide +kernel), ⟨by decide +kernel, by decide +kernel, by decide +kernel⟩, t_in 13 (by decide +kernel), by decide⟩
theorem ti_X0_enterSplit : Cond.instanceMethod yX0_enterSplit ∈ lw_tbl ∧ Cond.selects (yX0_enterSplit).cls yX0_enterSplit yX0_enterSplit ∈ lw_tbl := ⟨t_in 614 (by decide +kernel), t_inS 28 (by decide +kernel)⟩
theorem tm_X0_enterJoined : tM yX0_enterJoined cX0_enterJoined 7 none 4 := ⟨t_in 629 (by decide +kernel), ⟨by decide +kernel, by decide +kernel, by decide +kernel⟩, t_in 13 (by decide +kernel), by decide⟩
theorem ti_X0_enterJoined : Cond.instanceMethod yX0_enterJoined ∈ lw_tbl ∧ Cond.selects (yX0_enterJoined).cls yX0_enterJoined yX0_enterJoined ∈ lw_tbl := ⟨t_in 628 (by decide +kernel), t_inS 30 (by decide +kernel)⟩
theorem tm_X0_sort : tM yX0_sort cX0_sort 6 none 0 := ⟨t_in 633 (by decide +kernel), ⟨by decide +kernel, by decide +kernel, by decide +kernel⟩, t_in 13 (by decide +kernel), by decide⟩
theorem ti_X0_sort : Cond.instanceMethod yX0_sort ∈ lw_tbl ∧ Cond.selects (yX0_sort).cls yX0_sort yX0_sort ∈ lw_tbl := ⟨t_in 632 (by decide +kernel), t_inS 31 (by decide +kernel)⟩
theorem tm_X0_sink : tM yX0_sink cX0_sink 6 none 2 := ⟨t_in 639 (by decide +kernel), ⟨by decide +kernel, by decide +kernel, by decide +kernel⟩, t_in 13 (by decide +kernel), by decide⟩
theorem ti_X0_sink : Cond.instanceMethod yX0_sink ∈ lw_tbl ∧ Cond.selects (yX0_sink).cls yX0_sink yX0_sink ∈ lw_tbl := ⟨t_in 638 (by decide +kernel), t_inS 32 (by decide +kernel)⟩
theorem tm_X1_init : tM yX1_init cX1_init 1 none 0 := ⟨t_in 109 (by decide +kernel), ⟨by decide +kernel, by decide +kernel, by decide +kernel⟩, t_in 6 (by decide +kernel), by decide⟩
theorem ti_X1_init : Cond.instanceMethod yX1_init ∈ lw_tbl := t_in 108 (by decide +kernel)
theorem tm_X1_fill : tM yX1_fill cX1_fill 2 none 1 := ⟨t_in 413 (by decide +kernel), ⟨by decide +kernel, by decide +kernel, by decide +kernel⟩, t_in 6 (by decide +kernel), by decide⟩
theorem ti_X1_fill : Cond.instanceMethod yX1_fill ∈ lw_tbl ∧ Cond.selects (yX1_fill).cls yX1_fill yX1_fill ∈ lw_tbl := ⟨t_in 411 (by decide +kernel), t_in 412 (by decide +kernel)⟩
theorem tm_X1_grow : tM yX1_grow cX1_grow 7 none 4 := ⟨t_in 417 (by decide +kernel), ⟨by decide +kernel, by decide +kernel, by decide +kernel⟩, t_in 6 (by decide +kernel), by decide⟩
theorem ti_X1_grow : Cond.instanceMethod yX1_grow ∈ lw_tbl ∧ Cond.selects (yX1_grow).cls yX1_grow yX1_grow ∈ lw_tbl := ⟨t_in 416 (by decide +kernel), t_inS 12 (by decide +kernel)⟩
theorem tm_X1_growChildren : tM yX1_growChildren cX1_growChildren 8 none 4 := ⟨t_in 432 (by decide +kernel), ⟨by decide +kernel, by decide +kernel, by decide +kernel⟩, t_in 6 (by decide +kernel), by decide⟩
theorem ti_X1_growChildren : Cond.instanceMethod yX1_growChildren ∈ lw_tbl ∧ Cond.selects (yX1_growChildren).cls yX1_growChildren yX1_growChildren ∈ lw_tbl := ⟨t_in 431 (by decide +kernel), t_inS 13 (by decide +kernel)⟩
theorem tm_X1_component : tM yX1_component cX1_component 8 (some .int) 4 := ⟨t_in 427 (by decide +kernel), ⟨by decide +kernel, by decide +kernel, by decide +kernel⟩, t_in 6 (by decide +kernel), by decide⟩
theorem ts_X1_component : Cond.static yX1_component ∈ lw_tbl := t_in 426 (by decide +kernel)
theorem tm_X1_has : tM yX1_has cX1_has 2 (some .boolean) 1 := ⟨t_in 440 (by decide +kernel), ⟨by decide +kernel, by decide +kernel, by decide +kernel⟩, t_in 6 (by decide +kernel), by decide⟩
theorem ti_X1_has : Cond.instanceMethod yX1_has ∈ lw_tbl ∧ Cond.selects (yX1_has).cls yX1_has yX1_has ∈ lw_tbl := ⟨t_in 438 (by decide +kernel), t_in 439 (by decide +kernel)⟩
theorem tm_X1_depthOfLeaf : tM yX1_depthOfLeaf cX1_depthOfLeaf 3 (some .int) 1 := ⟨t_in 453 (by decide +kernel), ⟨by decide +kernel, by decide +kernel, by decide +kernel⟩, t_in 6 (by decide +kernel), by decide⟩
theorem ti_X1_depthOfLeaf : Cond.instanceMethod yX1_depthOfLeaf ∈ lw_tbl ∧ Cond.selects (yX1_depthOfLeaf).cls yX1_depthOfLeaf yX1_depthOfLeaf ∈ lw_tbl := ⟨t_in 451 (by decide +kernel), t_in 452 (by decide +kernel)⟩
theorem tm_X1_depthOfNode : tM yX1_depthOfNode cX1_depthOfNode 4 (some .int) 1 := ⟨t_in 457 (by decide +kernel), ⟨by decide +kernel, by decide +kernel, by decide +kernel⟩, t_in 6 (by decide +kernel), by decide⟩
theorem ti_X1_depthOfNode : Cond.instanceMethod yX1_depthOfNode ∈ lw_tbl ∧ Cond.selects (yX1_depthOfNode).cls yX1_depthOfNode yX1_depthOfNode ∈ lw_tbl := ⟨t_in 456 (by decide +kernel), t_inS 14 (by decide +kernel)⟩
theorem tm_X2_init : tM yX2_init cX2_init 1 none 0 := ⟨t_in 165 (by decide +kernel), ⟨by decide +kernel, by decide +kernel, by decide +kernel⟩, t_in 8 (by decide +kernel), by decide⟩
theorem ti_X2_init : Cond.instanceMethod yX2_init ∈ lw_tbl := t_in 164 (by decide +kernel)
theorem tm_X2_put : tM yX2_put cX2_put 2 none 1 := ⟨t_in 466 (by decide +kernel), ⟨by decide +kernel, by decide +kernel, by decide +kernel⟩, t_in 8 (by decide +kernel), by decide⟩
theorem ti_X2_put : Cond.instanceMethod yX2_put ∈ lw_tbl ∧ Cond.selects (yX2_put).cls yX2_put yX2_put ∈ lw_tbl := ⟨t_in 464 (by decide +kernel), t_in 465 (by decide +kernel)⟩
theorem tm_X2_putTree : tM yX2_putTree cX2_putTree 2 none 1 := ⟨t_in 470 (by decide +kernel), ⟨by decide +kernel, by decide +kernel, by decide +kernel⟩, t_in 8 (by decide +kernel), by decide⟩
theorem ti_X2_putTree : Cond.instanceMethod yX2_putTree ∈ lw_tbl ∧ Cond.selects (yX2_putTree).cls yX2_putTree yX2_putTree ∈ lw_tbl := ⟨t_in 468 (by decide +kernel), t_in 469 (by decide +kernel)⟩
theorem tm_X2_putNode : tM yX2_putNode cX2_putNode 7 none 3 := ⟨t_in 474 (by decide +kernel), ⟨by decide +kernel, by decide +kernel, by decide +kernel⟩, t_in 8 (by decide +kernel), by decide⟩
theorem ti_X2_putNode : Cond.instanceMethod yX2_putNode ∈ lw_tbl ∧ Cond.selects (yX2_putNode).cls yX2_putNode yX2_putNode ∈ lw_tbl := ⟨t_in 473 (by decide +kernel), t_inS 15 (by decide +kernel)⟩
theorem tm_X2_putChild : tM yX2_putChild cX2_putChild 5 none 3 := ⟨t_in 480 (by decide +kernel), ⟨by decide +kernel, by decide +kernel, by decide +kernel⟩, t_in 8 (by decide +kernel), by decide⟩
theorem ti_X2_putChild : Cond.instanceMethod yX2_putChild ∈ lw_tbl ∧ Cond.selects (yX2_putChild).cls yX2_putChild yX2_putChild ∈ lw_tbl := ⟨t_in 479 (by decide +kernel), t_inS 16 (by decide +kernel)⟩
theorem tm_X3_init : tM yX3_init cX3_init 1 none 0 := ⟨t_in 82 (by decide +kernel), ⟨by decide +kernel, by decide +kernel, by decide +kernel⟩, t_in 5 (by decide +kernel), by decide⟩
theorem ti_X3_init : Cond.instanceMethod yX3_init ∈ lw_tbl := t_in 81 (by decide +kernel)
theorem tm_X3_fill : tM yX3_fill cX3_fill 5 none 2 := ⟨t_in 327 (by decide +kernel), ⟨by decide +kernel, by decide +kernel, by decide +kernel⟩, t_in 5 (by decide +kernel), by decide⟩
theorem ti_X3_fill : Cond.instanceMethod yX3_fill ∈ lw_tbl ∧ Cond.selects (yX3_fill).cls yX3_fill yX3_fill ∈ lw_tbl := ⟨t_in 325 (by decide +kernel), t_in 326 (by decide +kernel)⟩
theorem tm_X3_isMinimal : tM yX3_isMinimal cX3_isMinimal 6 (some .boolean) 3 := ⟨t_in 333 (by decide +kernel), ⟨by decide +kernel, by decide +kernel, by decide +kernel⟩, t_in 5 (by decide +kernel), by decide⟩
theorem ts_X3_isMinimal : Cond.static yX3_isMinimal ∈ lw_tbl := t_in 332 (by decide +kernel)
theorem tm_X3_addPrime : tM yX3_addPrime cX3_addPrime 3 none 1 := ⟨t_in 337 (by decide +kernel), ⟨by decide +kernel, by decide +kernel, by decide +kernel⟩, t_in 5 (by decide +kernel), by decide⟩
theorem ti_X3_addPrime : Cond.instanceMethod yX3_addPrime ∈ lw_tbl ∧ Cond.selects (yX3_addPrime).cls yX3_addPrime yX3_addPrime ∈ lw_tbl := ⟨t_in 336 (by decide +kernel), t_inS 4 (by decide +kernel)⟩
theorem tm_X3_primeAt : tM yX3_primeAt cX3_primeAt 2 (some .int) 1 := ⟨t_in 348 (by decide +kernel), ⟨by decide +kernel, by decide +kernel, by decide +kernel⟩, t_in 5 (by decide +kernel), by decide⟩
theorem ti_X3_primeAt : Cond.instanceMethod yX3_primeAt ∈ lw_tbl ∧ Cond.selects (yX3_primeAt).cls yX3_primeAt yX3_primeAt ∈ lw_tbl := ⟨t_in 346 (by decide +kernel), t_in 347 (by decide +kernel)⟩
theorem tm_X3_areAdjacent : tM yX3_areAdjacent cX3_areAdjacent 3 (some .boolean) 2 := ⟨t_in 369 (by decide +kernel), ⟨by decide +kernel, by decide +kernel, by decide +kernel⟩, t_in 5 (by decide +kernel), by decide⟩
theorem ti_X3_areAdjacent : Cond.instanceMethod yX3_areAdjacent ∈ lw_tbl ∧ Cond.selects (yX3_areAdjacent).cls yX3_areAdjacent yX3_areAdjacent ∈ lw_tbl := ⟨t_in 368 (by decide +kernel), t_inS 6 (by decide +kernel)⟩
theorem tm_X3_findPath : tM yX3_findPath cX3_findPath 3 (some .boolean) 0 := ⟨t_in 365 (by decide +kernel), ⟨by decide +kernel, by decide +kernel, by decide +kernel⟩, t_in 5 (by decide +kernel), by decide⟩
theorem ti_X3_findPath : Cond.instanceMethod yX3_findPath ∈ lw_tbl ∧ Cond.selects (yX3_findPath).cls yX3_findPath yX3_findPath ∈ lw_tbl := ⟨t_in 363 (by decide +kernel), t_in 364 (by decide +kernel)⟩
theorem tm_X3_findPathFrom : tM yX3_findPathFrom cX3_findPathFrom 5 (some .boolean) 2 := ⟨t_in 373 (by decide +kernel), ⟨by decide +kernel, by decide +kernel, by decide +kernel⟩, t_in 5 (by decide +kernel), by decide⟩
theorem ti_X3_findPathFrom : Cond.instanceMethod yX3_findPathFrom ∈ lw_tbl ∧ Cond.selects (yX3_findPathFrom).cls yX3_findPathFrom yX3_findPathFrom ∈ lw_tbl := ⟨t_in 372 (by decide +kernel), t_inS 7 (by decide +kernel)⟩
theorem tm_X3_lowestBadClique : tM yX3_lowestBadClique cX3_lowestBadClique 2 (some .int) 0 := ⟨t_in 385 (by decide +kernel), ⟨by decide +kernel, by decide +kernel, by decide +kernel⟩, t_in 5 (by decide +kernel), by decide⟩
theorem ti_X3_lowestBadClique : Cond.instanceMethod yX3_lowestBadClique ∈ lw_tbl ∧ Cond.selects (yX3_lowestBadClique).cls yX3_lowestBadClique yX3_lowestBadClique ∈ lw_tbl := ⟨t_in 383 (by decide +kernel), t_in 384 (by decide +kernel)⟩
theorem tm_X3_isMaximalClique : tM yX3_isMaximalClique cX3_isMaximalClique 5 (some .boolean) 1 := ⟨t_in 389 (by decide +kernel), ⟨by decide +kernel, by decide +kernel, by decide +kernel⟩, t_in 5 (by decide +kernel), by decide⟩
theorem ti_X3_isMaximalClique : Cond.instanceMethod yX3_isMaximalClique ∈ lw_tbl ∧ Cond.selects (yX3_isMaximalClique).cls yX3_isMaximalClique yX3_isMaximalClique ∈ lw_tbl := ⟨t_in 388 (by decide +kernel), t_inS 8 (by decide +kernel)⟩
theorem tm_X3_isPrime : tM yX3_isPrime cX3_isPrime 3 (some .boolean) 1 := ⟨t_in 393 (by decide +kernel), ⟨by decide +kernel, by decide +kernel, by decide +kernel⟩, t_in 5 (by decide +kernel), by decide⟩
theorem ti_X3_isPrime : Cond.instanceMethod yX3_isPrime ∈ lw_tbl ∧ Cond.selects (yX3_isPrime).cls yX3_isPrime yX3_isPrime ∈ lw_tbl := ⟨t_in 392 (by decide +kernel), t_inS 9 (by decide +kernel)⟩
theorem tm_X4_init : tM yX4_init cX4_init 1 none 0 := ⟨t_in 63 (by decide +kernel), ⟨by decide +kernel, by decide +kernel, by decide +kernel⟩, t_in 4 (by decide +kernel), by decide⟩
theorem ti_X4_init : Cond.instanceMethod yX4_init ∈ lw_tbl := t_in 62 (by decide +kernel)
theorem tm_X4_remember : tM yX4_remember cX4_remember 4 none 2 := ⟨t_in 247 (by decide +kernel), ⟨by decide +kernel, by decide +kernel, by decide +kernel⟩, t_in 4 (by decide +kernel), by decide⟩
theorem ti_X4_remember : Cond.instanceMethod yX4_remember ∈ lw_tbl ∧ Cond.selects (yX4_remember).cls yX4_remember yX4_remember ∈ lw_tbl := ⟨t_in 245 (by decide +kernel), t_in 246 (by decide +kernel)⟩
theorem tm_X4_forget : tM yX4_forget cX4_forget 1 none 0 := ⟨t_in 224 (by decide +kernel), ⟨by decide +kernel, by decide +kernel, by decide +kernel⟩, t_in 4 (by decide +kernel), by decide⟩
theorem ti_X4_forget : Cond.instanceMethod yX4_forget ∈ lw_tbl ∧ Cond.selects (yX4_forget).cls yX4_forget yX4_forget ∈ lw_tbl := ⟨t_in 222 (by decide +kernel), t_in 223 (by decide +kernel)⟩
theorem tm_X5_init : tM yX5_init cX5_init 1 none 0 := ⟨t_in 131 (by decide +kernel), ⟨by decide +kernel, by decide +kernel, by decide +kernel⟩, t_in 7 (by decide +kernel), by decide⟩
theorem ti_X5_init : Cond.instanceMethod yX5_init ∈ lw_tbl := t_in 130 (by decide +kernel)
theorem tm_X5_append : tM yX5_append cX5_append 2 (some .boolean) 1 := ⟨t_in 492 (by decide +kernel), ⟨by decide +kernel, by decide +kernel, by decide +kernel⟩, t_in 7 (by decide +kernel), by decide⟩
theorem ti_X5_append : Cond.instanceMethod yX5_append ∈ lw_tbl ∧ Cond.selects (yX5_append).cls yX5_append yX5_append ∈ lw_tbl := ⟨t_in 490 (by decide +kernel), t_in 491 (by decide +kernel)⟩
theorem tm_X5_readFormula : tM yX5_readFormula cX5_readFormula 4 (some .long) 1 := ⟨t_in 500 (by decide +kernel), ⟨by decide +kernel, by decide +kernel, by decide +kernel⟩, t_in 7 (by decide +kernel), by decide⟩
theorem ti_X5_readFormula : Cond.instanceMethod yX5_readFormula ∈ lw_tbl ∧ Cond.selects (yX5_readFormula).cls yX5_readFormula yX5_readFormula ∈ lw_tbl := ⟨t_in 498 (by decide +kernel), t_in 499 (by decide +kernel)⟩
theorem tm_X5_nextIs : tM yX5_nextIs cX5_nextIs 2 (some .boolean) 1 := ⟨t_in 516 (by decide +kernel), ⟨by decide +kernel, by decide +kernel, by decide +kernel⟩, t_in 7 (by decide +kernel), by decide⟩
theorem ti_X5_nextIs : Cond.instanceMethod yX5_nextIs ∈ lw_tbl ∧ Cond.selects (yX5_nextIs).cls yX5_nextIs yX5_nextIs ∈ lw_tbl := ⟨t_in 515 (by decide +kernel), t_inS 20 (by decide +kernel)⟩
theorem tm_X5_readSum : tM yX5_readSum cX5_readSum 7 (some .long) 1 := ⟨t_in 504 (by decide +kernel), ⟨by decide +kernel, by decide +kernel, by decide +kernel⟩, t_in 7 (by decide +kernel), by decide⟩
theorem ti_X5_readSum : Cond.instanceMethod yX5_readSum ∈ lw_tbl ∧ Cond.selects (yX5_readSum).cls yX5_readSum yX5_readSum ∈ lw_tbl := ⟨t_in 503 (by decide +kernel), t_inS 17 (by decide +kernel)⟩
theorem tm_X5_readProduct : tM yX5_readProduct cX5_readProduct 7 (some .long) 1 := ⟨t_in 508 (by decide +kernel), ⟨by decide +kernel, by decide +kernel, by decide +kernel⟩, t_in 7 (by decide +kernel), by decide⟩
theorem ti_X5_readProduct : Cond.instanceMethod yX5_readProduct ∈ lw_tbl ∧ Cond.selects (yX5_readProduct).cls yX5_readProduct yX5_readProduct ∈ lw_tbl := ⟨t_in 507 (by decide +kernel), t_inS 18 (by decide +kernel)⟩
theorem tm_X5_readFactor : tM yX5_readFactor cX5_readFactor 2 (some .long) 1 := ⟨t_in 512 (by decide +kernel), ⟨by decide +kernel, by decide +kernel, by decide +kernel⟩, t_in 7 (by decide +kernel), by decide⟩
theorem ti_X5_readFactor : Cond.instanceMethod yX5_readFactor ∈ lw_tbl ∧ Cond.selects (yX5_readFactor).cls yX5_readFactor yX5_readFactor ∈ lw_tbl := ⟨t_in 511 (by decide +kernel), t_inS 19 (by decide +kernel)⟩
theorem tm_X5_readOpened : tM yX5_readOpened cX5_readOpened 5 (some .long) 1 := ⟨t_in 520 (by decide +kernel), ⟨by decide +kernel, by decide +kernel, by decide +kernel⟩, t_in 7 (by decide +kernel), by decide⟩
theorem ti_X5_readOpened : Cond.instanceMethod yX5_readOpened ∈ lw_tbl ∧ Cond.selects (yX5_readOpened).cls yX5_readOpened yX5_readOpened ∈ lw_tbl := ⟨t_in 519 (by decide +kernel), t_inS 21 (by decide +kernel)⟩
theorem tm_X5_readAtom : tM yX5_readAtom cX5_readAtom 3 (some .long) 0 := ⟨t_in 525 (by decide +kernel), ⟨by decide +kernel, by decide +kernel, by decide +kernel⟩, t_in 7 (by decide +kernel), by decide⟩
theorem ti_X5_readAtom : Cond.instanceMethod yX5_readAtom ∈ lw_tbl ∧ Cond.selects (yX5_readAtom).cls yX5_readAtom yX5_readAtom ∈ lw_tbl := ⟨t_in 524 (by decide +kernel), t_inS 22 (by decide +kernel)⟩
theorem tm_X6_init : tM yX6_init cX6_init 1 none 0 := ⟨t_in 26 (by decide +kernel), ⟨by decide +kernel, by decide +kernel, by decide +kernel⟩, t_in 2 (by decide +kernel), by decide⟩
theorem ti_X6_init : Cond.instanceMethod yX6_init ∈ lw_tbl := t_in 25 (by decide +kernel)
theorem tm_X6_startAnew : tM yX6_startAnew cX6_startAnew 2 none 1 := ⟨t_in 220 (by decide +kernel), ⟨by decide +kernel, by decide +kernel, by decide +kernel⟩, t_in 2 (by decide +kernel), by decide⟩
theorem ti_X6_startAnew : Cond.instanceMethod yX6_startAnew ∈ lw_tbl ∧ Cond.selects (yX6_startAnew).cls yX6_startAnew yX6_startAnew ∈ lw_tbl := ⟨t_in 218 (by decide +kernel), t_in 219 (by decide +kernel)⟩
theorem tm_X6_copyFrom : tM yX6_copyFrom cX6_copyFrom 2 none 1 := ⟨t_in 708 (by decide +kernel), ⟨by decide +kernel, by decide +kernel, by decide +kernel⟩, t_in 2 (by decide +kernel), by decide⟩
theorem ti_X6_copyFrom : Cond.instanceMethod yX6_copyFrom ∈ lw_tbl ∧ Cond.selects (yX6_copyFrom).cls yX6_copyFrom yX6_copyFrom ∈ lw_tbl := ⟨t_in 706 (by decide +kernel), t_in 707 (by decide +kernel)⟩
theorem tm_X6_holds : tM yX6_holds cX6_holds 2 (some .boolean) 1 := ⟨t_in 268 (by decide +kernel), ⟨by decide +kernel, by decide +kernel, by decide +kernel⟩, t_in 2 (by decide +kernel), by decide⟩
theorem ti_X6_holds : Cond.instanceMethod yX6_holds ∈ lw_tbl ∧ Cond.selects (yX6_holds).cls yX6_holds yX6_holds ∈ lw_tbl := ⟨t_in 266 (by decide +kernel), t_in 267 (by decide +kernel)⟩
theorem tm_X6_usedCount : tM yX6_usedCount cX6_usedCount 3 (some .int) 0 := ⟨t_in 278 (by decide +kernel), ⟨by decide +kernel, by decide +kernel, by decide +kernel⟩, t_in 2 (by decide +kernel), by decide⟩
theorem ti_X6_usedCount : Cond.instanceMethod yX6_usedCount ∈ lw_tbl ∧ Cond.selects (yX6_usedCount).cls yX6_usedCount yX6_usedCount ∈ lw_tbl := ⟨t_in 276 (by decide +kernel), t_in 277 (by decide +kernel)⟩
theorem tm_X6_appendStep : tM yX6_appendStep cX6_appendStep 6 none 4 := ⟨t_in 677 (by decide +kernel), ⟨by decide +kernel, by decide +kernel, by decide +kernel⟩, t_in 2 (by decide +kernel), by decide⟩
theorem ti_X6_appendStep : Cond.instanceMethod yX6_appendStep ∈ lw_tbl ∧ Cond.selects (yX6_appendStep).cls yX6_appendStep yX6_appendStep ∈ lw_tbl := ⟨t_in 675 (by decide +kernel), t_in 676 (by decide +kernel)⟩
theorem tm_X7_init : tM yX7_init cX7_init 1 none 0 := ⟨t_in 18 (by decide +kernel), ⟨by decide +kernel, by decide +kernel, by decide +kernel⟩, t_in 1 (by decide +kernel), by decide⟩
theorem ti_X7_init : Cond.instanceMethod yX7_init ∈ lw_tbl := t_in 17 (by decide +kernel)
theorem tm_X7_setVariables : tM yX7_setVariables cX7_setVariables 3 (some .int) 1 := ⟨t_in 216 (by decide +kernel), ⟨by decide +kernel, by decide +kernel, by decide +kernel⟩, t_in 1 (by decide +kernel), by decide⟩
theorem ti_X7_setVariables : Cond.instanceMethod yX7_setVariables ∈ lw_tbl ∧ Cond.selects (yX7_setVariables).cls yX7_setVariables yX7_setVariables ∈ lw_tbl := ⟨t_in 214 (by decide +kernel), t_in 215 (by decide +kernel)⟩
theorem tm_X7_variables : tM yX7_variables cX7_variables 1 (some .int) 0 := ⟨t_in 228 (by decide +kernel), ⟨by decide +kernel, by decide +kernel, by decide +kernel⟩, t_in 1 (by decide +kernel), by decide⟩
theorem ti_X7_variables : Cond.instanceMethod yX7_variables ∈ lw_tbl ∧ Cond.selects (yX7_variables).cls yX7_variables yX7_variables ∈ lw_tbl := ⟨t_in 226 (by decide +kernel), t_in 227 (by decide +kernel)⟩
theorem tm_X7_setTable : tM yX7_setTable cX7_setTable 4 (some .int) 2 := ⟨t_in 232 (by decide +kernel), ⟨by decide +kernel, by decide +kernel, by decide +kernel⟩, t_in 1 (by decide +kernel), by decide⟩
theorem ti_X7_setTable : Cond.instanceMethod yX7_setTable ∈ lw_tbl ∧ Cond.selects (yX7_setTable).cls yX7_setTable yX7_setTable ∈ lw_tbl := ⟨t_in 230 (by decide +kernel), t_in 231 (by decide +kernel)⟩
theorem tm_X7_table : tM yX7_table cX7_table 3 (some .long) 1 := ⟨t_in 260 (by decide +kernel), ⟨by decide +kernel, by decide +kernel, by decide +kernel⟩, t_in 1 (by decide +kernel), by decide⟩
theorem ti_X7_table : Cond.instanceMethod yX7_table ∈ lw_tbl ∧ Cond.selects (yX7_table).cls yX7_table yX7_table ∈ lw_tbl := ⟨t_in 258 (by decide +kernel), t_in 259 (by decide +kernel)⟩
theorem tm_X7_clear : tM yX7_clear cX7_clear 3 (some .int) 1 := ⟨t_in 273 (by decide +kernel), ⟨by decide +kernel, by decide +kernel, by decide +kernel⟩, t_in 1 (by decide +kernel), by decide⟩
theorem ti_X7_clear : Cond.instanceMethod yX7_clear ∈ lw_tbl ∧ Cond.selects (yX7_clear).cls yX7_clear yX7_clear ∈ lw_tbl := ⟨t_in 271 (by decide +kernel), t_in 272 (by decide +kernel)⟩
theorem tm_X7_value : tM yX7_value cX7_value 4 (some .int) 2 := ⟨t_in 283 (by decide +kernel), ⟨by decide +kernel, by decide +kernel, by decide +kernel⟩, t_in 1 (by decide +kernel), by decide⟩
theorem ti_X7_value : Cond.instanceMethod yX7_value ∈ lw_tbl ∧ Cond.selects (yX7_value).cls yX7_value yX7_value ∈ lw_tbl := ⟨t_in 281 (by decide +kernel), t_in 282 (by decide +kernel)⟩
theorem tm_X7_usedSlots : tM yX7_usedSlots cX7_usedSlots 1 (some .int) 0 := ⟨t_in 294 (by decide +kernel), ⟨by decide +kernel, by decide +kernel, by decide +kernel⟩, t_in 1 (by decide +kernel), by decide⟩
theorem ti_X7_usedSlots : Cond.instanceMethod yX7_usedSlots ∈ lw_tbl ∧ Cond.selects (yX7_usedSlots).cls yX7_usedSlots yX7_usedSlots ∈ lw_tbl := ⟨t_in 292 (by decide +kernel), t_in 293 (by decide +kernel)⟩
theorem tm_X7_essential : tM yX7_essential cX7_essential 3 (some .int) 1 := ⟨t_in 298 (by decide +kernel), ⟨by decide +kernel, by decide +kernel, by decide +kernel⟩, t_in 1 (by decide +kernel), by decide⟩
theorem ti_X7_essential : Cond.instanceMethod yX7_essential ∈ lw_tbl ∧ Cond.selects (yX7_essential).cls yX7_essential yX7_essential ∈ lw_tbl := ⟨t_in 296 (by decide +kernel), t_in 297 (by decide +kernel)⟩
theorem tm_X7_isMonotone : tM yX7_isMonotone cX7_isMonotone 3 (some .int) 1 := ⟨t_in 305 (by decide +kernel), ⟨by decide +kernel, by decide +kernel, by decide +kernel⟩, t_in 1 (by decide +kernel), by decide⟩
theorem ti_X7_isMonotone : Cond.instanceMethod yX7_isMonotone ∈ lw_tbl ∧ Cond.selects (yX7_isMonotone).cls yX7_isMonotone yX7_isMonotone ∈ lw_tbl := ⟨t_in 303 (by decide +kernel), t_in 304 (by decide +kernel)⟩
theorem tm_X7_violatingPoint : tM yX7_violatingPoint cX7_violatingPoint 3 (some .int) 1 := ⟨t_in 315 (by decide +kernel), ⟨by decide +kernel, by decide +kernel, by decide +kernel⟩, t_in 1 (by decide +kernel), by decide⟩
theorem ti_X7_violatingPoint : Cond.instanceMethod yX7_violatingPoint ∈ lw_tbl ∧ Cond.selects (yX7_violatingPoint).cls yX7_violatingPoint yX7_violatingPoint ∈ lw_tbl := ⟨t_in 313 (by decide +kernel), t_in 314 (by decide +kernel)⟩
theorem tm_X7_primeImplicants : tM yX7_primeImplicants cX7_primeImplicants 3 (some .int) 1 := ⟨t_in 319 (by decide +kernel), ⟨by decide +kernel, by decide +kernel, by decide +kernel⟩, t_in 1 (by decide +kernel), by decide⟩
theorem ti_X7_primeImplicants : Cond.instanceMethod yX7_primeImplicants ∈ lw_tbl ∧ Cond.selects (yX7_primeImplicants).cls yX7_primeImplicants yX7_primeImplicants ∈ lw_tbl := ⟨t_in 317 (by decide +kernel), t_in 318 (by decide +kernel)⟩
theorem tm_X7_primeImplicant : tM yX7_primeImplicant cX7_primeImplicant 4 (some .int) 2 := ⟨t_in 344 (by decide +kernel), ⟨by decide +kernel, by decide +kernel, by decide +kernel⟩, t_in 1 (by decide +kernel), by decide⟩
theorem ti_X7_primeImplicant : Cond.instanceMethod yX7_primeImplicant ∈ lw_tbl ∧ Cond.selects (yX7_primeImplicant).cls yX7_primeImplicant yX7_primeImplicant ∈ lw_tbl := ⟨t_in 342 (by decide +kernel), t_in 343 (by decide +kernel)⟩
theorem tm_X7_neighbors : tM yX7_neighbors cX7_neighbors 4 (some .int) 2 := ⟨t_in 353 (by decide +kernel), ⟨by decide +kernel, by decide +kernel, by decide +kernel⟩, t_in 1 (by decide +kernel), by decide⟩
theorem ti_X7_neighbors : Cond.instanceMethod yX7_neighbors ∈ lw_tbl ∧ Cond.selects (yX7_neighbors).cls yX7_neighbors yX7_neighbors ∈ lw_tbl := ⟨t_in 351 (by decide +kernel), t_in 352 (by decide +kernel)⟩
theorem tm_X7_inducedPath : tM yX7_inducedPath cX7_inducedPath 4 (some .int) 2 := ⟨t_in 361 (by decide +kernel), ⟨by decide +kernel, by decide +kernel, by decide +kernel⟩, t_in 1 (by decide +kernel), by decide⟩
theorem ti_X7_inducedPath : Cond.instanceMethod yX7_inducedPath ∈ lw_tbl ∧ Cond.selects (yX7_inducedPath).cls yX7_inducedPath yX7_inducedPath ∈ lw_tbl := ⟨t_in 359 (by decide +kernel), t_in 360 (by decide +kernel)⟩
theorem tm_X7_badClique : tM yX7_badClique cX7_badClique 3 (some .int) 1 := ⟨t_in 381 (by decide +kernel), ⟨by decide +kernel, by decide +kernel, by decide +kernel⟩, t_in 1 (by decide +kernel), by decide⟩
theorem ti_X7_badClique : Cond.instanceMethod yX7_badClique ∈ lw_tbl ∧ Cond.selects (yX7_badClique).cls yX7_badClique yX7_badClique ∈ lw_tbl := ⟨t_in 379 (by decide +kernel), t_in 380 (by decide +kernel)⟩
theorem tm_X7_reason : tM yX7_reason cX7_reason 3 (some .int) 1 := ⟨t_in 397 (by decide +kernel), ⟨by decide +kernel, by decide +kernel, by decide +kernel⟩, t_in 1 (by decide +kernel), by decide⟩
theorem ti_X7_reason : Cond.instanceMethod yX7_reason ∈ lw_tbl ∧ Cond.selects (yX7_reason).cls yX7_reason yX7_reason ∈ lw_tbl := ⟨t_in 395 (by decide +kernel), t_in 396 (by decide +kernel)⟩
theorem tm_X7_nodes : tM yX7_nodes cX7_nodes 3 (some .int) 1 := ⟨t_in 405 (by decide +kernel), ⟨by decide +kernel, by decide +kernel, by decide +kernel⟩, t_in 1 (by decide +kernel), by decide⟩
theorem ti_X7_nodes : Cond.instanceMethod yX7_nodes ∈ lw_tbl ∧ Cond.selects (yX7_nodes).cls yX7_nodes yX7_nodes ∈ lw_tbl := ⟨t_in 403 (by decide +kernel), t_in 404 (by decide +kernel)⟩
theorem tm_X7_nodeType : tM yX7_nodeType cX7_nodeType 4 (some .int) 2 := ⟨t_in 436 (by decide +kernel), ⟨by decide +kernel, by decide +kernel, by decide +kernel⟩, t_in 1 (by decide +kernel), by decide⟩
theorem ti_X7_nodeType : Cond.instanceMethod yX7_nodeType ∈ lw_tbl ∧ Cond.selects (yX7_nodeType).cls yX7_nodeType yX7_nodeType ∈ lw_tbl := ⟨t_in 434 (by decide +kernel), t_in 435 (by decide +kernel)⟩
theorem tm_X7_parent : tM yX7_parent cX7_parent 4 (some .int) 2 := ⟨t_in 445 (by decide +kernel), ⟨by decide +kernel, by decide +kernel, by decide +kernel⟩, t_in 1 (by decide +kernel), by decide⟩
theorem ti_X7_parent : Cond.instanceMethod yX7_parent ∈ lw_tbl ∧ Cond.selects (yX7_parent).cls yX7_parent yX7_parent ∈ lw_tbl := ⟨t_in 443 (by decide +kernel), t_in 444 (by decide +kernel)⟩
theorem tm_X7_depth : tM yX7_depth cX7_depth 4 (some .int) 2 := ⟨t_in 449 (by decide +kernel), ⟨by decide +kernel, by decide +kernel, by decide +kernel⟩, t_in 1 (by decide +kernel), by decide⟩
theorem ti_X7_depth : Cond.instanceMethod yX7_depth ∈ lw_tbl ∧ Cond.selects (yX7_depth).cls yX7_depth yX7_depth ∈ lw_tbl := ⟨t_in 447 (by decide +kernel), t_in 448 (by decide +kernel)⟩
theorem tm_X7_writeFormula : tM yX7_writeFormula cX7_writeFormula 3 (some .int) 1 := ⟨t_in 462 (by decide +kernel), ⟨by decide +kernel, by decide +kernel, by decide +kernel⟩, t_in 1 (by decide +kernel), by decide⟩
theorem ti_X7_writeFormula : Cond.instanceMethod yX7_writeFormula ∈ lw_tbl ∧ Cond.selects (yX7_writeFormula).cls yX7_writeFormula yX7_writeFormula ∈ lw_tbl := ⟨t_in 460 (by decide +kernel), t_in 461 (by decide +kernel)⟩
theorem tm_X7_output : tM yX7_output cX7_output 2 (some .int) 1 := ⟨t_in 484 (by decide +kernel), ⟨by decide +kernel, by decide +kernel, by decide +kernel⟩, t_in 1 (by decide +kernel), by decide⟩
theorem ti_X7_output : Cond.instanceMethod yX7_output ∈ lw_tbl ∧ Cond.selects (yX7_output).cls yX7_output yX7_output ∈ lw_tbl := ⟨t_in 482 (by decide +kernel), t_in 483 (by decide +kernel)⟩
theorem tm_X7_feed : tM yX7_feed cX7_feed 2 (some .int) 1 := ⟨t_in 488 (by decide +kernel), ⟨by decide +kernel, by decide +kernel, by decide +kernel⟩, t_in 1 (by decide +kernel), by decide⟩
theorem ti_X7_feed : Cond.instanceMethod yX7_feed ∈ lw_tbl ∧ Cond.selects (yX7_feed).cls yX7_feed yX7_feed ∈ lw_tbl := ⟨t_in 486 (by decide +kernel), t_in 487 (by decide +kernel)⟩
theorem tm_X7_parse : tM yX7_parse cX7_parse 4 (some .int) 1 := ⟨t_in 496 (by decide +kernel), ⟨by decide +kernel, by decide +kernel, by decide +kernel⟩, t_in 1 (by decide +kernel), by decide⟩
theorem ti_X7_parse : Cond.instanceMethod yX7_parse ∈ lw_tbl ∧ Cond.selects (yX7_parse).cls yX7_parse yX7_parse ∈ lw_tbl := ⟨t_in 494 (by decide +kernel), t_in 495 (by decide +kernel)⟩
theorem tm_X7_combine : tM yX7_combine cX7_combine 5 (some .int) 4 := ⟨t_in 532 (by decide +kernel), ⟨by decide +kernel, by decide +kernel, by decide +kernel⟩, t_in 1 (by decide +kernel), by decide⟩
theorem ti_X7_combine : Cond.instanceMethod yX7_combine ∈ lw_tbl ∧ Cond.selects (yX7_combine).cls yX7_combine yX7_combine ∈ lw_tbl := ⟨t_in 530 (by decide +kernel), t_in 531 (by decide +kernel)⟩
theorem tm_X7_dual : tM yX7_dual cX7_dual 9 (some .int) 2 := ⟨t_in 539 (by decide +kernel), ⟨by decide +kernel, by decide +kernel, by decide +kernel⟩, t_in 1 (by decide +kernel), by decide⟩
theorem ti_X7_dual : Cond.instanceMethod yX7_dual ∈ lw_tbl ∧ Cond.selects (yX7_dual).cls yX7_dual yX7_dual ∈ lw_tbl := ⟨t_in 537 (by decide +kernel), t_in 538 (by decide +kernel)⟩
theorem tm_X7_cofactor : tM yX7_cofactor cX7_cofactor 7 (some .int) 4 := ⟨t_in 543 (by decide +kernel), ⟨by decide +kernel, by decide +kernel, by decide +kernel⟩, t_in 1 (by decide +kernel), by decide⟩
theorem ti_X7_cofactor : Cond.instanceMethod yX7_cofactor ∈ lw_tbl ∧ Cond.selects (yX7_cofactor).cls yX7_cofactor yX7_cofactor ∈ lw_tbl := ⟨t_in 541 (by decide +kernel), t_in 542 (by decide +kernel)⟩
theorem tm_X7_substitute : tM yX7_substitute cX7_substitute 5 (some .int) 4 := ⟨t_in 557 (by decide +kernel), ⟨by decide +kernel, by decide +kernel, by decide +kernel⟩, t_in 1 (by decide +kernel), by decide⟩
theorem ti_X7_substitute : Cond.instanceMethod yX7_substitute ∈ lw_tbl ∧ Cond.selects (yX7_substitute).cls yX7_substitute yX7_substitute ∈ lw_tbl := ⟨t_in 555 (by decide +kernel), t_in 556 (by decide +kernel)⟩
theorem tm_X7_exchange : tM yX7_exchange cX7_exchange 11 (some .int) 4 := ⟨t_in 561 (by decide +kernel), ⟨by decide +kernel, by decide +kernel, by decide +kernel⟩, t_in 1 (by decide +kernel), by decide⟩
theorem ti_X7_exchange : Cond.instanceMethod yX7_exchange ∈ lw_tbl ∧ Cond.selects (yX7_exchange).cls yX7_exchange yX7_exchange ∈ lw_tbl := ⟨t_in 559 (by decide +kernel), t_in 560 (by decide +kernel)⟩
theorem tm_X7_random : tM yX7_random cX7_random 4 (some .int) 3 := ⟨t_in 565 (by decide +kernel), ⟨by decide +kernel, by decide +kernel, by decide +kernel⟩, t_in 1 (by decide +kernel), by decide⟩
theorem ti_X7_random : Cond.instanceMethod yX7_random ∈ lw_tbl ∧ Cond.selects (yX7_random).cls yX7_random yX7_random ∈ lw_tbl := ⟨t_in 563 (by decide +kernel), t_in 564 (by decide +kernel)⟩
theorem tm_X7_readOnceTrials : tM yX7_readOnceTrials cX7_readOnceTrials 6 (some .int) 3 := ⟨t_in 577 (by decide +kernel), ⟨by decide +kernel, by decide +kernel, by decide +kernel⟩, t_in 1 (by decide +kernel), by decide⟩
theorem ti_X7_readOnceTrials : Cond.instanceMethod yX7_readOnceTrials ∈ lw_tbl ∧ Cond.selects (yX7_readOnceTrials).cls yX7_readOnceTrials yX7_readOnceTrials ∈ lw_tbl := ⟨t_in 575 (by decide +kernel), t_in 576 (by decide +kernel)⟩
theorem tm_X7_addSample : tM yX7_addSample cX7_addSample 3 (some .int) 2 := ⟨t_in 581 (by decide +kernel), ⟨by decide +kernel, by decide +kernel, by decide +kernel⟩, t_in 1 (by decide +kernel), by decide⟩
theorem ti_X7_addSample : Cond.instanceMethod yX7_addSample ∈ lw_tbl ∧ Cond.selects (yX7_addSample).cls yX7_addSample yX7_addSample ∈ lw_tbl := ⟨t_in 579 (by decide +kernel), t_in 580 (by decide +kernel)⟩
theorem tm_X7_removeSample : tM yX7_removeSample cX7_removeSample 2 (some .int) 1 := ⟨t_in 585 (by decide +kernel), ⟨by decide +kernel, by decide +kernel, by decide +kernel⟩, t_in 1 (by decide +kernel), by decide⟩
theorem ti_X7_removeSample : Cond.instanceMethod yX7_removeSample ∈ lw_tbl ∧ Cond.selects (yX7_removeSample).cls yX7_removeSample yX7_removeSample ∈ lw_tbl := ⟨t_in 583 (by decide +kernel), t_in 584 (by decide +kernel)⟩
theorem tm_X7_extensions : tM yX7_extensions cX7_extensions 4 (some .int) 0 := ⟨t_in 589 (by decide +kernel), ⟨by decide +kernel, by decide +kernel, by decide +kernel⟩, t_in 1 (by decide +kernel), by decide⟩
theorem ti_X7_extensions : Cond.instanceMethod yX7_extensions ∈ lw_tbl ∧ Cond.selects (yX7_extensions).cls yX7_extensions yX7_extensions ∈ lw_tbl := ⟨t_in 587 (by decide +kernel), t_in 588 (by decide +kernel)⟩
theorem tm_X7_extension : tM yX7_extension cX7_extension 5 (some .long) 1 := ⟨t_in 660 (by decide +kernel), ⟨by decide +kernel, by decide +kernel, by decide +kernel⟩, t_in 1 (by decide +kernel), by decide⟩
theorem ti_X7_extension : Cond.instanceMethod yX7_extension ∈ lw_tbl ∧ Cond.selects (yX7_extension).cls yX7_extension yX7_extension ∈ lw_tbl := ⟨t_in 658 (by decide +kernel), t_in 659 (by decide +kernel)⟩
theorem tm_X7_simplestExtension : tM yX7_simplestExtension cX7_simplestExtension 7 (some .long) 0 := ⟨t_in 664 (by decide +kernel), ⟨by decide +kernel, by decide +kernel, by decide +kernel⟩, t_in 1 (by decide +kernel), by decide⟩
theorem ti_X7_simplestExtension : Cond.instanceMethod yX7_simplestExtension ∈ lw_tbl ∧ Cond.selects (yX7_simplestExtension).cls yX7_simplestExtension yX7_simplestExtension ∈ lw_tbl := ⟨t_in 662 (by decide +kernel), t_in 663 (by decide +kernel)⟩
theorem tm_X7_readOnceCount : tM yX7_readOnceCount cX7_readOnceCount 6 (some .int) 1 := ⟨t_in 669 (by decide +kernel), ⟨by decide +kernel, by decide +kernel, by decide +kernel⟩, t_in 1 (by decide +kernel), by decide⟩
theorem ti_X7_readOnceCount : Cond.instanceMethod yX7_readOnceCount ∈ lw_tbl ∧ Cond.selects (yX7_readOnceCount).cls yX7_readOnceCount yX7_readOnceCount ∈ lw_tbl := ⟨t_in 667 (by decide +kernel), t_in 668 (by decide +kernel)⟩
theorem tm_X7_addStep : tM yX7_addStep cX7_addStep 5 (some .int) 4 := ⟨t_in 673 (by decide +kernel), ⟨by decide +kernel, by decide +kernel, by decide +kernel⟩, t_in 1 (by decide +kernel), by decide⟩
theorem ti_X7_addStep : Cond.instanceMethod yX7_addStep ∈ lw_tbl ∧ Cond.selects (yX7_addStep).cls yX7_addStep yX7_addStep ∈ lw_tbl := ⟨t_in 671 (by decide +kernel), t_in 672 (by decide +kernel)⟩
theorem tm_X7_clearSteps : tM yX7_clearSteps cX7_clearSteps 2 (some .int) 0 := ⟨t_in 681 (by decide +kernel), ⟨by decide +kernel, by decide +kernel, by decide +kernel⟩, t_in 1 (by decide +kernel), by decide⟩
theorem ti_X7_clearSteps : Cond.instanceMethod yX7_clearSteps ∈ lw_tbl ∧ Cond.selects (yX7_clearSteps).cls yX7_clearSteps yX7_clearSteps ∈ lw_tbl := ⟨t_in 679 (by decide +kernel), t_in 680 (by decide +kernel)⟩
theorem tm_X7_runSteps : tM yX7_runSteps cX7_runSteps 3 (some .int) 0 := ⟨t_in 685 (by decide +kernel), ⟨by decide +kernel, by decide +kernel, by decide +kernel⟩, t_in 1 (by decide +kernel), by decide⟩
theorem ti_X7_runSteps : Cond.instanceMethod yX7_runSteps ∈ lw_tbl ∧ Cond.selects (yX7_runSteps).cls yX7_runSteps yX7_runSteps ∈ lw_tbl := ⟨t_in 683 (by decide +kernel), t_in 684 (by decide +kernel)⟩
theorem tm_X7_undo : tM yX7_undo cX7_undo 3 (some .int) 0 := ⟨t_in 696 (by decide +kernel), ⟨by decide +kernel, by decide +kernel, by decide +kernel⟩, t_in 1 (by decide +kernel), by decide⟩
theorem ti_X7_undo : Cond.instanceMethod yX7_undo ∈ lw_tbl ∧ Cond.selects (yX7_undo).cls yX7_undo yX7_undo ∈ lw_tbl := ⟨t_in 694 (by decide +kernel), t_in 695 (by decide +kernel)⟩
theorem tm_X7_undoable : tM yX7_undoable cX7_undoable 1 (some .int) 0 := ⟨t_in 700 (by decide +kernel), ⟨by decide +kernel, by decide +kernel, by decide +kernel⟩, t_in 1 (by decide +kernel), by decide⟩
theorem ti_X7_undoable : Cond.instanceMethod yX7_undoable ∈ lw_tbl ∧ Cond.selects (yX7_undoable).cls yX7_undoable yX7_undoable ∈ lw_tbl := ⟨t_in 698 (by decide +kernel), t_in 699 (by decide +kernel)⟩
theorem tm_X7_save : tM yX7_save cX7_save 1 (some .int) 0 := ⟨t_in 704 (by decide +kernel), ⟨by decide +kernel, by decide +kernel, by decide +kernel⟩, t_in 1 (by decide +kernel), by decide⟩
theorem ti_X7_save : Cond.instanceMethod yX7_save ∈ lw_tbl ∧ Cond.selects (yX7_save).cls yX7_save yX7_save ∈ lw_tbl := ⟨t_in 702 (by decide +kernel), t_in 703 (by decide +kernel)⟩
theorem tm_X7_restore : tM yX7_restore cX7_restore 1 (some .int) 0 := ⟨t_in 713 (by decide +kernel), ⟨by decide +kernel, by decide +kernel, by decide +kernel⟩, t_in 1 (by decide +kernel), by decide⟩
theorem ti_X7_restore : Cond.instanceMethod yX7_restore ∈ lw_tbl ∧ Cond.selects (yX7_restore).cls yX7_restore yX7_restore ∈ lw_tbl := ⟨t_in 711 (by decide +kernel), t_in 712 (by decide +kernel)⟩
theorem tm_X7_createArray : tM yX7_createArray cX7_createArray 4 (some .int) 2 := ⟨t_in 717 (by decide +kernel), ⟨by decide +kernel, by decide +kernel, by decide +kernel⟩, t_in 1 (by decide +kernel), by decide⟩
theorem ti_X7_createArray : Cond.instanceMethod yX7_createArray ∈ lw_tbl ∧ Cond.selects (yX7_createArray).cls yX7_createArray yX7_createArray ∈ lw_tbl := ⟨t_in 715 (by decide +kernel), t_in 716 (by decide +kernel)⟩
theorem tm_X7_setElement : tM yX7_setElement cX7_setElement 4 (some .int) 3 := ⟨t_in 721 (by decide +kernel), ⟨by decide +kernel, by decide +kernel, by decide +kernel⟩, t_in 1 (by decide +kernel), by decide⟩
theorem ti_X7_setElement : Cond.instanceMethod yX7_setElement ∈ lw_tbl ∧ Cond.selects (yX7_setElement).cls yX7_setElement yX7_setElement ∈ lw_tbl := ⟨t_in 719 (by decide +kernel), t_in 720 (by decide +kernel)⟩
theorem tm_X7_element : tM yX7_element cX7_element 3 (some .long) 2 := ⟨t_in 725 (by decide +kernel), ⟨by decide +kernel, by decide +kernel, by decide +kernel⟩, t_in 1 (by decide +kernel), by decide⟩
theorem ti_X7_element : Cond.instanceMethod yX7_element ∈ lw_tbl ∧ Cond.selects (yX7_element).cls yX7_element yX7_element ∈ lw_tbl := ⟨t_in 723 (by decide +kernel), t_in 724 (by decide +kernel)⟩
theorem tm_X7_compare : tM yX7_compare cX7_compare 5 (some .int) 2 := ⟨t_in 730 (by decide +kernel), ⟨by decide +kernel, by decide +kernel, by decide +kernel⟩, t_in 1 (by decide +kernel), by decide⟩
theorem ti_X7_compare : Cond.instanceMethod yX7_compare ∈ lw_tbl ∧ Cond.selects (yX7_compare).cls yX7_compare yX7_compare ∈ lw_tbl := ⟨t_in 728 (by decide +kernel), t_in 729 (by decide +kernel)⟩
theorem tm_X7_isIndex : tM yX7_isIndex cX7_isIndex 2 (some .boolean) 2 := ⟨t_in 238 (by decide +kernel), ⟨by decide +kernel, by decide +kernel, by decide +kernel⟩, t_in 1 (by decide +kernel), by decide⟩
theorem ts_X7_isIndex : Cond.static yX7_isIndex ∈ lw_tbl := t_in 237 (by decide +kernel)
theorem tm_X7_isSlot : tM yX7_isSlot cX7_isSlot 1 (some .boolean) 1 := ⟨t_in 235 (by decide +kernel), ⟨by decide +kernel, by decide +kernel, by decide +kernel⟩, t_in 1 (by decide +kernel), by decide⟩
theorem ts_X7_isSlot : Cond.static yX7_isSlot ∈ lw_tbl := t_in 234 (by decide +kernel)
theorem tm_X7_isBit : tM yX7_isBit cX7_isBit 1 (some .boolean) 1 := ⟨t_in 546 (by decide +kernel), ⟨by decide +kernel, by decide +kernel, by decide +kernel⟩, t_in 1 (by decide +kernel), by decide⟩
theorem ts_X7_isBit : Cond.static yX7_isBit ∈ lw_tbl := t_in 545 (by decide +kernel)
theorem tm_X7_isPoint : tM yX7_isPoint cX7_isPoint 2 (some .boolean) 1 := ⟨t_in 287 (by decide +kernel), ⟨by decide +kernel, by decide +kernel, by decide +kernel⟩, t_in 1 (by decide +kernel), by decide⟩
theorem ti_X7_isPoint : Cond.instanceMethod yX7_isPoint ∈ lw_tbl ∧ Cond.selects (yX7_isPoint).cls yX7_isPoint yX7_isPoint ∈ lw_tbl := ⟨t_in 286 (by decide +kernel), t_inS 2 (by decide +kernel)⟩
theorem tm_X7_isVariable : tM yX7_isVariable cX7_isVariable 2 (some .boolean) 1 := ⟨t_in 357 (by decide +kernel), ⟨by decide +kernel, by decide +kernel, by decide +kernel⟩, t_in 1 (by decide +kernel), by decide⟩
theorem ti_X7_isVariable : Cond.instanceMethod yX7_isVariable ∈ lw_tbl ∧ Cond.selects (yX7_isVariable).cls yX7_isVariable yX7_isVariable ∈ lw_tbl := ⟨t_in 356 (by decide +kernel), t_inS 5 (by decide +kernel)⟩
theorem tm_X7_slotError : tM yX7_slotError cX7_slotError 2 (some .int) 1 := ⟨t_in 264 (by decide +kernel), ⟨by decide +kernel, by decide +kernel, by decide +kernel⟩, t_in 1 (by decide +kernel), by decide⟩
theorem ti_X7_slotError : Cond.instanceMethod yX7_slotError ∈ lw_tbl ∧ Cond.selects (yX7_slotError).cls yX7_slotError yX7_slotError ∈ lw_tbl := ⟨t_in 263 (by decide +kernel), t_inS 1 (by decide +kernel)⟩
theorem tm_X7_store : tM yX7_store cX7_store 4 (some .int) 2 := ⟨t_in 243 (by decide +kernel), ⟨by decide +kernel, by decide +kernel, by decide +kernel⟩, t_in 1 (by decide +kernel), by decide⟩
theorem ti_X7_store : Cond.instanceMethod yX7_store ∈ lw_tbl ∧ Cond.selects (yX7_store).cls yX7_store yX7_store ∈ lw_tbl := ⟨t_in 242 (by decide +kernel), t_inS 0 (by decide +kernel)⟩
theorem tm_X7_drawGraph : tM yX7_drawGraph cX7_drawGraph 3 (some .int) 1 := ⟨t_in 323 (by decide +kernel), ⟨by decide +kernel, by decide +kernel, by decide +kernel⟩, t_in 1 (by decide +kernel), by decide⟩
theorem ti_X7_drawGraph : Cond.instanceMethod yX7_drawGraph ∈ lw_tbl ∧ Cond.selects (yX7_drawGraph).cls yX7_drawGraph yX7_drawGraph ∈ lw_tbl := ⟨t_in 322 (by decide +kernel), t_inS 3 (by decide +kernel)⟩
theorem tm_X7_growCotree : tM yX7_growCotree cX7_growCotree 3 (some .int) 1 := ⟨t_in 409 (by decide +kernel), ⟨by decide +kernel, by decide +kernel, by decide +kernel⟩, t_in 1 (by decide +kernel), by decide⟩
theorem ti_X7_growCotree : Cond.instanceMethod yX7_growCotree ∈ lw_tbl ∧ Cond.selects (yX7_growCotree).cls yX7_growCotree yX7_growCotree ∈ lw_tbl := ⟨t_in 408 (by decide +kernel), t_inS 11 (by decide +kernel)⟩
theorem tm_X7_whyNotReadOnce : tM yX7_whyNotReadOnce cX7_whyNotReadOnce 3 (some .int) 1 := ⟨t_in 401 (by decide +kernel), ⟨by decide +kernel, by decide +kernel, by decide +kernel⟩, t_in 1 (by decide +kernel), by decide⟩
theorem ti_X7_whyNotReadOnce : Cond.instanceMethod yX7_whyNotReadOnce ∈ lw_tbl ∧ Cond.selects (yX7_whyNotReadOnce).cls yX7_whyNotReadOnce yX7_whyNotReadOnce ∈ lw_tbl := ⟨t_in 400 (by decide +kernel), t_inS 10 (by decide +kernel)⟩
theorem tm_X7_runStep : tM yX7_runStep cX7_runStep 6 (some .int) 1 := ⟨t_in 689 (by decide +kernel), ⟨by decide +kernel, by decide +kernel, by decide +kernel⟩, t_in 1 (by decide +kernel), by decide⟩
theorem ti_X7_runStep : Cond.instanceMethod yX7_runStep ∈ lw_tbl ∧ Cond.selects (yX7_runStep).cls yX7_runStep yX7_runStep ∈ lw_tbl := ⟨t_in 688 (by decide +kernel), t_inS 34 (by decide +kernel)⟩
theorem tm_X7_openCatalog : tM yX7_openCatalog cX7_openCatalog 1 (some (.object "ReadOnceRecognizer$Catalog")) 0 := ⟨t_in 593 (by decide +kernel), ⟨by decide +kernel, by decide +kernel, by decide +kernel⟩, t_in 1 (by decide +kernel), by decide⟩
theorem ti_X7_openCatalog : Cond.instanceMethod yX7_openCatalog ∈ lw_tbl ∧ Cond.selects (yX7_openCatalog).cls yX7_openCatalog yX7_openCatalog ∈ lw_tbl := ⟨t_in 592 (by decide +kernel), t_inS 25 (by decide +kernel)⟩
theorem tm_X7_isExtension : tM yX7_isExtension cX7_isExtension 5 (some .boolean) 2 := ⟨t_in 651 (by decide +kernel), ⟨by decide +kernel, by decide +kernel, by decide +kernel⟩, t_in 1 (by decide +kernel), by decide⟩
theorem ti_X7_isExtension : Cond.instanceMethod yX7_isExtension ∈ lw_tbl ∧ Cond.selects (yX7_isExtension).cls yX7_isExtension yX7_isExtension ∈ lw_tbl := ⟨t_in 650 (by decide +kernel), t_inS 33 (by decide +kernel)⟩
theorem tm_X7_pointCount : tM yX7_pointCount cX7_pointCount 1 (some .int) 1 := ⟨t_in 138 (by decide +kernel), ⟨by decide +kernel, by decide +kernel, by decide +kernel⟩, t_in 1 (by decide +kernel), by decide⟩
theorem ts_X7_pointCount : Cond.static yX7_pointCount ∈ lw_tbl := t_in 137 (by decide +kernel)
theorem tm_X7_fullTable : tM yX7_fullTable cX7_fullTable 1 (some .long) 1 := ⟨t_in 135 (by decide +kernel), ⟨by decide +kernel, by decide +kernel, by decide +kernel⟩, t_in 1 (by decide +kernel), by decide⟩
theorem ts_X7_fullTable : Cond.static yX7_fullTable ∈ lw_tbl := t_in 134 (by decide +kernel)
theorem tm_X7_bitAt : tM yX7_bitAt cX7_bitAt 3 (some .int) 2 := ⟨t_in 290 (by decide +kernel), ⟨by decide +kernel, by decide +kernel, by decide +kernel⟩, t_in 1 (by decide +kernel), by decide⟩
theorem ts_X7_bitAt : Cond.static yX7_bitAt ∈ lw_tbl := t_in 289 (by decide +kernel)
theorem tm_X7_withBit : tM yX7_withBit cX7_withBit 3 (some .int) 3 := ⟨t_in 553 (by decide +kernel), ⟨by decide +kernel, by decide +kernel, by decide +kernel⟩, t_in 1 (by decide +kernel), by decide⟩
theorem ts_X7_withBit : Cond.static yX7_withBit ∈ lw_tbl := t_in 552 (by decide +kernel)
theorem tm_X7_essentialSet : tM yX7_essentialSet cX7_essentialSet 6 (some .int) 2 := ⟨t_in 301 (by decide +kernel), ⟨by decide +kernel, by decide +kernel, by decide +kernel⟩, t_in 1 (by decide +kernel), by decide⟩
theorem ts_X7_essentialSet : Cond.static yX7_essentialSet ∈ lw_tbl := t_in 300 (by decide +kernel)
theorem tm_X7_lowestViolation : tM yX7_lowestViolation cX7_lowestViolation 4 (some .int) 2 := ⟨t_in 308 (by decide +kernel), ⟨by decide +kernel, by decide +kernel, by decide +kernel⟩, t_in 1 (by decide +kernel), by decide⟩
theorem ts_X7_lowestViolation : Cond.static yX7_lowestViolation ∈ lw_tbl := t_in 307 (by decide +kernel)
theorem tm_X7_fallsAbove : tM yX7_fallsAbove cX7_fallsAbove 5 (some .boolean) 3 := ⟨t_in 311 (by decide +kernel), ⟨by decide +kernel, by decide +kernel, by decide +kernel⟩, t_in 1 (by decide +kernel), by decide⟩
theorem ts_X7_fallsAbove : Cond.static yX7_fallsAbove ∈ lw_tbl := t_in 310 (by decide +kernel)
theorem tm_X7_applied : tM yX7_applied cX7_applied 5 (some .long) 3 := ⟨t_in 535 (by decide +kernel), ⟨by decide +kernel, by decide +kernel, by decide +kernel⟩, t_in 1 (by decide +kernel), by decide⟩
theorem ts_X7_applied : Cond.static yX7_applied ∈ lw_tbl := t_in 534 (by decide +kernel)
theorem tm_X7_substituted : tM yX7_substituted cX7_substituted 10 (some .long) 3 := ⟨t_in 550 (by decide +kernel), ⟨by decide +kernel, by decide +kernel, by decide +kernel⟩, t_in 1 (by decide +kernel), by decide⟩
theorem ti_X7_substituted : Cond.instanceMethod yX7_substituted ∈ lw_tbl ∧ Cond.selects (yX7_substituted).cls yX7_substituted yX7_substituted ∈ lw_tbl := ⟨t_in 549 (by decide +kernel), t_inS 23 (by decide +kernel)⟩
theorem tm_X7_drawnTable : tM yX7_drawnTable cX7_drawnTable 8 (some .long) 2 := ⟨t_in 569 (by decide +kernel), ⟨by decide +kernel, by decide +kernel, by decide +kernel⟩, t_in 1 (by decide +kernel), by decide⟩
theorem ti_X7_drawnTable : Cond.instanceMethod yX7_drawnTable ∈ lw_tbl ∧ Cond.selects (yX7_drawnTable).cls yX7_drawnTable yX7_drawnTable ∈ lw_tbl := ⟨t_in 568 (by decide +kernel), t_inS 24 (by decide +kernel)⟩
theorem tm_X7_supersets : tM yX7_supersets cX7_supersets 5 (some .long) 2 := ⟨t_in 573 (by decide +kernel), ⟨by decide +kernel, by decide +kernel, by decide +kernel⟩, t_in 1 (by decide +kernel), by decide⟩
theorem ts_X7_supersets : Cond.static yX7_supersets ∈ lw_tbl := t_in 572 (by decide +kernel)
theorem tm_X7_hasVariable : tM yX7_hasVariable cX7_hasVariable 2 (some .boolean) 2 := ⟨t_in 340 (by decide +kernel), ⟨by decide +kernel, by decide +kernel, by decide +kernel⟩, t_in 1 (by decide +kernel), by decide⟩
theorem ts_X7_hasVariable : Cond.static yX7_hasVariable ∈ lw_tbl := t_in 339 (by decide +kernel)
theorem tm_X7_lowestVariable : tM yX7_lowestVariable cX7_lowestVariable 2 (some .int) 1 := ⟨t_in 376 (by decide +kernel), ⟨by decide +kernel, by decide +kernel, by decide +kernel⟩, t_in 1 (by decide +kernel), by decide⟩
theorem ts_X7_lowestVariable : Cond.static yX7_lowestVariable ∈ lw_tbl := t_in 375 (by decide +kernel)
theorem tm_X8_init : tM yX8_init cX8_init 2 none 0 := ⟨t_in 735 (by decide +kernel), ⟨by decide +kernel, by decide +kernel, by decide +kernel⟩, t_in 9 (by decide +kernel), by decide⟩
theorem ti_X8_init : Cond.instanceMethod yX8_init ∈ lw_tbl := t_in 734 (by decide +kernel)
theorem tm_X8_isIn : tM yX8_isIn cX8_isIn 6 (some .boolean) 3 := ⟨t_in 893 (by decide +kernel), ⟨by decide +kernel, by decide +kernel, by decide +kernel⟩, t_in 9 (by decide +kernel), by decide⟩
theorem ts_X8_isIn : Cond.static yX8_isIn ∈ lw_tbl := t_in 892 (by decide +kernel)
theorem tm_X8_isSlot : tM yX8_isSlot cX8_isSlot 1 (some .boolean) 1 := ⟨t_in 904 (by decide +kernel), ⟨by decide +kernel, by decide +kernel, by decide +kernel⟩, t_in 9 (by decide +kernel), by decide⟩
theorem ts_X8_isSlot : Cond.static yX8_isSlot ∈ lw_tbl := t_in 903 (by decide +kernel)
theorem tm_X8_isPoint : tM yX8_isPoint cX8_isPoint 2 (some .boolean) 1 := ⟨t_in 942 (by decide +kernel), ⟨by decide +kernel, by decide +kernel, by decide +kernel⟩, t_in 9 (by decide +kernel), by decide⟩
theorem ti_X8_isPoint : Cond.instanceMethod yX8_isPoint ∈ lw_tbl ∧ Cond.selects (yX8_isPoint).cls yX8_isPoint yX8_isPoint ∈ lw_tbl := ⟨t_in 941 (by decide +kernel), t_inS 44 (by decide +kernel)⟩
theorem tm_X8_isVariable : tM yX8_isVariable cX8_isVariable 2 (some .boolean) 1 := ⟨t_in 998 (by decide +kernel), ⟨by decide +kernel, by decide +kernel, by decide +kernel⟩, t_in 9 (by decide +kernel), by decide⟩
theorem ti_X8_isVariable : Cond.instanceMethod yX8_isVariable ∈ lw_tbl ∧ Cond.selects (yX8_isVariable).cls yX8_isVariable yX8_isVariable ∈ lw_tbl := ⟨t_in 997 (by decide +kernel), t_inS 52 (by decide +kernel)⟩
theorem tm_X8_at : tM yX8_at cX8_at 3 (some .boolean) 2 := ⟨t_in 920 (by decide +kernel), ⟨by decide +kernel, by decide +kernel, by decide +kernel⟩, t_in 9 (by decide +kernel), by decide⟩
theorem ts_X8_at : Cond.static yX8_at ∈ lw_tbl := t_in 919 (by decide +kernel)
theorem tm_X8_ones : tM yX8_ones cX8_ones 5 (some .int) 1 := ⟨t_in 917 (by decide +kernel), ⟨by decide +kernel, by decide +kernel, by decide +kernel⟩, t_in 9 (by decide +kernel), by decide⟩
theorem ti_X8_ones : Cond.instanceMethod yX8_ones ∈ lw_tbl ∧ Cond.selects (yX8_ones).cls yX8_ones yX8_ones ∈ lw_tbl := ⟨t_in 916 (by decide +kernel), t_inS 43 (by decide +kernel)⟩
theorem tm_X8_bits : tM yX8_bits cX8_bits 3 (some .int) 1 := ⟨t_in 751 (by decide +kernel), ⟨by decide +kernel, by decide +kernel, by decide +kernel⟩, t_in 9 (by decide +kernel), by decide⟩
theorem ts_X8_bits : Cond.static yX8_bits ∈ lw_tbl := t_in 750 (by decide +kernel)
theorem tm_X8_record : tM yX8_record cX8_record 3 none 1 := ⟨t_in 913 (by decide +kernel), ⟨by decide +kernel, by decide +kernel, by decide +kernel⟩, t_in 9 (by decide +kernel), by decide⟩
theorem ti_X8_record : Cond.instanceMethod yX8_record ∈ lw_tbl ∧ Cond.selects (yX8_record).cls yX8_record yX8_record ∈ lw_tbl := ⟨t_in 912 (by decide +kernel), t_inS 42 (by decide +kernel)⟩
theorem tm_X8_store : tM yX8_store cX8_store 4 (some .int) 2 := ⟨t_in 909 (by decide +kernel), ⟨by decide +kernel, by decide +kernel, by decide +kernel⟩, t_in 9 (by decide +kernel), by decide⟩
theorem ti_X8_store : Cond.instanceMethod yX8_store ∈ lw_tbl ∧ Cond.selects (yX8_store).cls yX8_store yX8_store ∈ lw_tbl := ⟨t_in 908 (by decide +kernel), t_inS 41 (by decide +kernel)⟩
theorem tm_X8_setVariables : tM yX8_setVariables cX8_setVariables 4 (some .int) 1 := ⟨t_in 889 (by decide +kernel), ⟨by decide +kernel, by decide +kernel, by decide +kernel⟩, t_in 9 (by decide +kernel), by decide⟩
theorem ti_X8_setVariables : Cond.instanceMethod yX8_setVariables ∈ lw_tbl ∧ Cond.selects (yX8_setVariables).cls yX8_setVariables yX8_setVariables ∈ lw_tbl := ⟨t_in 887 (by decide +kernel), t_in 888 (by decide +kernel)⟩
theorem tm_X8_variables : tM yX8_variables cX8_variables 1 (some .int) 0 := ⟨t_in 897 (by decide +kernel), ⟨by decide +kernel, by decide +kernel, by decide +kernel⟩, t_in 9 (by decide +kernel), by decide⟩
theorem ti_X8_variables : Cond.instanceMethod yX8_variables ∈ lw_tbl ∧ Cond.selects (yX8_variables).cls yX8_variables yX8_variables ∈ lw_tbl := ⟨t_in 895 (by decide +kernel), t_in 896 (by decide +kernel)⟩
theorem tm_X8_setTable : tM yX8_setTable cX8_setTable 4 (some .int) 2 := ⟨t_in 901 (by decide +kernel), ⟨by decide +kernel, by decide +kernel, by decide +kernel⟩, t_in 9 (by decide +kernel), by decide⟩
theorem ti_X8_setTable : Cond.instanceMethod yX8_setTable ∈ lw_tbl ∧ Cond.selects (yX8_setTable).cls yX8_setTable yX8_setTable ∈ lw_tbl := ⟨t_in 899 (by decide +kernel), t_in 900 (by decide +kernel)⟩
theorem tm_X8_table : tM yX8_table cX8_table 2 (some .long) 1 := ⟨t_in 924 (by decide +kernel), ⟨by decide +kernel, by decide +kernel, by decide +kernel⟩, t_in 9 (by decide +kernel), by decide⟩
theorem ti_X8_table : Cond.instanceMethod yX8_table ∈ lw_tbl ∧ Cond.selects (yX8_table).cls yX8_table yX8_table ∈ lw_tbl := ⟨t_in 922 (by decide +kernel), t_in 923 (by decide +kernel)⟩
theorem tm_X8_clear : tM yX8_clear cX8_clear 2 (some .int) 1 := ⟨t_in 930 (by decide +kernel), ⟨by decide +kernel, by decide +kernel, by decide +kernel⟩, t_in 9 (by decide +kernel), by decide⟩
theorem ti_X8_clear : Cond.instanceMethod yX8_clear ∈ lw_tbl ∧ Cond.selects (yX8_clear).cls yX8_clear yX8_clear ∈ lw_tbl := ⟨t_in 928 (by decide +kernel), t_in 929 (by decide +kernel)⟩
theorem tm_X8_wrong : tM yX8_wrong cX8_wrong 2 (some .int) 1 := ⟨t_in 950 (by decide +kernel), ⟨by decide +kernel, by decide +kernel, by decide +kernel⟩, t_in 9 (by decide +kernel), by decide⟩
theorem ti_X8_wrong : Cond.instanceMethod yX8_wrong ∈ lw_tbl ∧ Cond.selects (yX8_wrong).cls yX8_wrong yX8_wrong ∈ lw_tbl := ⟨t_in 949 (by decide +kernel), t_inS 45 (by decide +kernel)⟩
theorem tm_X8_value : tM yX8_value cX8_value 3 (some .int) 2 := ⟨t_in 938 (by decide +kernel), ⟨by decide +kernel, by decide +kernel, by decide +kernel⟩, t_in 9 (by decide +kernel), by decide⟩
theorem ti_X8_value : Cond.instanceMethod yX8_value ∈ lw_tbl ∧ Cond.selects (yX8_value).cls yX8_value yX8_value ∈ lw_tbl := ⟨t_in 936 (by decide +kernel), t_in 937 (by decide +kernel)⟩
theorem tm_X8_essentialOf : tM yX8_essentialOf cX8_essentialOf 6 (some .int) 1 := ⟨t_in 954 (by decide +kernel), ⟨by decide +kernel, by decide +kernel, by decide +kernel⟩, t_in 9 (by decide +kernel), by decide⟩
theorem ti_X8_essentialOf : Cond.instanceMethod yX8_essentialOf ∈ lw_tbl ∧ Cond.selects (yX8_essentialOf).cls yX8_essentialOf yX8_essentialOf ∈ lw_tbl := ⟨t_in 953 (by decide +kernel), t_inS 46 (by decide +kernel)⟩
theorem tm_X8_essential : tM yX8_essential cX8_essential 2 (some .int) 1 := ⟨t_in 946 (by decide +kernel), ⟨by decide +kernel, by decide +kernel, by decide +kernel⟩, t_in 9 (by decide +kernel), by decide⟩
theorem ti_X8_essential : Cond.instanceMethod yX8_essential ∈ lw_tbl ∧ Cond.selects (yX8_essential).cls yX8_essential yX8_essential ∈ lw_tbl := ⟨t_in 944 (by decide +kernel), t_in 945 (by decide +kernel)⟩
theorem tm_X8_violation : tM yX8_violation cX8_violation 5 (some .int) 1 := ⟨t_in 962 (by decide +kernel), ⟨by decide +kernel, by decide +kernel, by decide +kernel⟩, t_in 9 (by decide +kernel), by decide⟩
theorem ti_X8_violation : Cond.instanceMethod yX8_violation ∈ lw_tbl ∧ Cond.selects (yX8_violation).cls yX8_violation yX8_violation ∈ lw_tbl := ⟨t_in 961 (by decide +kernel), t_inS 47 (by decide +kernel)⟩
theorem tm_X8_isMonotone : tM yX8_isMonotone cX8_isMonotone 2 (some .int) 1 := ⟨t_in 958 (by decide +kernel), ⟨by decide +kernel, by decide +kernel, by decide +kernel⟩, t_in 9 (by decide +kernel), by decide⟩
theorem ti_X8_isMonotone : Cond.instanceMethod yX8_isMonotone ∈ lw_tbl ∧ Cond.selects (yX8_isMonotone).cls yX8_isMonotone yX8_isMonotone ∈ lw_tbl := ⟨t_in 956 (by decide +kernel), t_in 957 (by decide +kernel)⟩
theorem tm_X8_violatingPoint : tM yX8_violatingPoint cX8_violatingPoint 2 (some .int) 1 := ⟨t_in 966 (by decide +kernel), ⟨by decide +kernel, by decide +kernel, by decide +kernel⟩, t_in 9 (by decide +kernel), by decide⟩
theorem ti_X8_violatingPoint : Cond.instanceMethod yX8_violatingPoint ∈ lw_tbl ∧ Cond.selects (yX8_violatingPoint).cls yX8_violatingPoint yX8_violatingPoint ∈ lw_tbl := ⟨t_in 964 (by decide +kernel), t_in 965 (by decide +kernel)⟩
theorem tm_X8_isPrime : tM yX8_isPrime cX8_isPrime 5 (some .boolean) 2 := ⟨t_in 982 (by decide +kernel), ⟨by decide +kernel, by decide +kernel, by decide +kernel⟩, t_in 9 (by decide +kernel), by decide⟩
theorem ti_X8_isPrime : Cond.instanceMethod yX8_isPrime ∈ lw_tbl ∧ Cond.selects (yX8_isPrime).cls yX8_isPrime yX8_isPrime ∈ lw_tbl := ⟨t_in 981 (by decide +kernel), t_inS 50 (by decide +kernel)⟩
theorem tm_X8_wrongOrNot : tM yX8_wrongOrNot cX8_wrongOrNot 2 (some .int) 1 := ⟨t_in 974 (by decide +kernel), ⟨by decide +kernel, by decide +kernel, by decide +kernel⟩, t_in 9 (by decide +kernel), by decide⟩
theorem ti_X8_wrongOrNot : Cond.instanceMethod yX8_wrongOrNot ∈ lw_tbl ∧ Cond.selects (yX8_wrongOrNot).cls yX8_wrongOrNot yX8_wrongOrNot ∈ lw_tbl := ⟨t_in 973 (by decide +kernel), t_inS 48 (by decide +kernel)⟩
theorem tm_X8_primesOf : tM yX8_primesOf cX8_primesOf 5 (some .int) 1 := ⟨t_in 978 (by decide +kernel), ⟨by decide +kernel, by decide +kernel, by decide +kernel⟩, t_in 9 (by decide +kernel), by decide⟩
theorem ti_X8_primesOf : Cond.instanceMethod yX8_primesOf ∈ lw_tbl ∧ Cond.selects (yX8_primesOf).cls yX8_primesOf yX8_primesOf ∈ lw_tbl := ⟨t_in 977 (by decide +kernel), t_inS 49 (by decide +kernel)⟩
theorem tm_X8_primeOf : tM yX8_primeOf cX8_primeOf 6 (some .int) 2 := ⟨t_in 990 (by decide +kernel), ⟨by decide +kernel, by decide +kernel, by decide +kernel⟩, t_in 9 (by decide +kernel), by decide⟩
theorem ti_X8_primeOf : Cond.instanceMethod yX8_primeOf ∈ lw_tbl ∧ Cond.selects (yX8_primeOf).cls yX8_primeOf yX8_primeOf ∈ lw_tbl := ⟨t_in 989 (by decide +kernel), t_inS 51 (by decide +kernel)⟩
theorem tm_X8_primeImplicants : tM yX8_primeImplicants cX8_primeImplicants 3 (some .int) 1 := ⟨t_in 970 (by decide +kernel), ⟨by decide +kernel, by decide +kernel, by decide +kernel⟩, t_in 9 (by decide +kernel), by decide⟩
theorem ti_X8_primeImplicants : Cond.instanceMethod yX8_primeImplicants ∈ lw_tbl ∧ Cond.selects (yX8_primeImplicants).cls yX8_primeImplicants yX8_primeImplicants ∈ lw_tbl := ⟨t_in 968 (by decide +kernel), t_in 969 (by decide +kernel)⟩
theorem tm_X8_primeImplicant : tM yX8_primeImplicant cX8_primeImplicant 4 (some .int) 2 := ⟨t_in 986 (by decide +kernel), ⟨by decide +kernel, by decide +kernel, by decide +kernel⟩, t_in 9 (by decide +kernel), by decide⟩
theorem ti_X8_primeImplicant : Cond.instanceMethod yX8_primeImplicant ∈ lw_tbl ∧ Cond.selects (yX8_primeImplicant).cls yX8_primeImplicant yX8_primeImplicant ∈ lw_tbl := ⟨t_in 984 (by decide +kernel), t_in 985 (by decide +kernel)⟩
theorem tm_X8_graph : tM yX8_graph cX8_graph 5 none 1 := ⟨t_in 1002 (by decide +kernel), ⟨by decide +kernel, by decide +kernel, by decide +kernel⟩, t_in 9 (by decide +kernel), by decide⟩
theorem ti_X8_graph : Cond.instanceMethod yX8_graph ∈ lw_tbl ∧ Cond.selects (yX8_graph).cls yX8_graph yX8_graph ∈ lw_tbl := ⟨t_in 1001 (by decide +kernel), t_inS 53 (by decide +kernel)⟩
theorem tm_X8_areNear : tM yX8_areNear cX8_areNear 3 (some .boolean) 2 := ⟨t_in 1015 (by decide +kernel), ⟨by decide +kernel, by decide +kernel, by decide +kernel⟩, t_in 9 (by decide +kernel), by decide⟩
theorem ti_X8_areNear : Cond.instanceMethod yX8_areNear ∈ lw_tbl ∧ Cond.selects (yX8_areNear).cls yX8_areNear yX8_areNear ∈ lw_tbl := ⟨t_in 1014 (by decide +kernel), t_inS 55 (by decide +kernel)⟩
theorem tm_X8_neighbors : tM yX8_neighbors cX8_neighbors 4 (some .int) 2 := ⟨t_in 994 (by decide +kernel), ⟨by decide +kernel, by decide +kernel, by decide +kernel⟩, t_in 9 (by decide +kernel), by decide⟩
theorem ti_X8_neighbors : Cond.instanceMethod yX8_neighbors ∈ lw_tbl ∧ Cond.selects (yX8_neighbors).cls yX8_neighbors yX8_neighbors ∈ lw_tbl := ⟨t_in 992 (by decide +kernel), t_in 993 (by decide +kernel)⟩
theorem tm_X8_path : tM yX8_path cX8_path 7 (some .int) 0 := ⟨t_in 1011 (by decide +kernel), ⟨by decide +kernel, by decide +kernel, by decide +kernel⟩, t_in 9 (by decide +kernel), by decide⟩
theorem ti_X8_path : Cond.instanceMethod yX8_path ∈ lw_tbl ∧ Cond.selects (yX8_path).cls yX8_path yX8_path ∈ lw_tbl := ⟨t_in 1010 (by decide +kernel), t_inS 54 (by decide +kernel)⟩
theorem tm_X8_inducedPath : tM yX8_inducedPath cX8_inducedPath 5 (some .int) 2 := ⟨t_in 1006 (by decide +kernel), ⟨by decide +kernel, by decide +kernel, by decide +kernel⟩, t_in 9 (by decide +kernel), by decide⟩
theorem ti_X8_inducedPath : Cond.instanceMethod yX8_inducedPath ∈ lw_tbl ∧ Cond.selects (yX8_inducedPath).cls yX8_inducedPath yX8_inducedPath ∈ lw_tbl := ⟨t_in 1004 (by decide +kernel), t_in 1005 (by decide +kernel)⟩
theorem tm_X8_isClique : tM yX8_isClique cX8_isClique 3 (some .boolean) 1 := ⟨t_in 1027 (by decide +kernel), ⟨by decide +kernel, by decide +kernel, by decide +kernel⟩, t_in 9 (by decide +kernel), by decide⟩
theorem ti_X8_isClique : Cond.instanceMethod yX8_isClique ∈ lw_tbl ∧ Cond.selects (yX8_isClique).cls yX8_isClique yX8_isClique ∈ lw_tbl := ⟨t_in 1026 (by decide +kernel), t_inS 57 (by decide +kernel)⟩
theorem tm_X8_isMaximal : tM yX8_isMaximal cX8_isMaximal 3 (some .boolean) 1 := ⟨t_in 1031 (by decide +kernel), ⟨by decide +kernel, by decide +kernel, by decide +kernel⟩, t_in 9 (by decide +kernel), by decide⟩
theorem ti_X8_isMaximal : Cond.instanceMethod yX8_isMaximal ∈ lw_tbl ∧ Cond.selects (yX8_isMaximal).cls yX8_isMaximal yX8_isMaximal ∈ lw_tbl := ⟨t_in 1030 (by decide +kernel), t_inS 58 (by decide +kernel)⟩
theorem tm_X8_badCliqueOf : tM yX8_badCliqueOf cX8_badCliqueOf 4 (some .int) 1 := ⟨t_in 1023 (by decide +kernel), ⟨by decide +kernel, by decide +kernel, by decide +kernel⟩, t_in 9 (by decide +kernel), by decide⟩
theorem ti_X8_badCliqueOf : Cond.instanceMethod yX8_badCliqueOf ∈ lw_tbl ∧ Cond.selects (yX8_badCliqueOf).cls yX8_badCliqueOf yX8_badCliqueOf ∈ lw_tbl := ⟨t_in 1022 (by decide +kernel), t_inS 56 (by decide +kernel)⟩
theorem tm_X8_badClique : tM yX8_badClique cX8_badClique 3 (some .int) 1 := ⟨t_in 1019 (by decide +kernel), ⟨by decide +kernel, by decide +kernel, by decide +kernel⟩, t_in 9 (by decide +kernel), by decide⟩
theorem ti_X8_badClique : Cond.instanceMethod yX8_badClique ∈ lw_tbl ∧ Cond.selects (yX8_badClique).cls yX8_badClique yX8_badClique ∈ lw_tbl := ⟨t_in 1017 (by decide +kernel), t_in 1018 (by decide +kernel)⟩
theorem tm_X8_reasonOf : tM yX8_reasonOf cX8_reasonOf 3 (some .int) 1 := ⟨t_in 1039 (by decide +kernel), ⟨by decide +kernel, by decide +kernel, by decide +kernel⟩, t_in 9 (by decide +kernel), by decide⟩
theorem ti_X8_reasonOf : Cond.instanceMethod yX8_reasonOf ∈ lw_tbl ∧ Cond.selects (yX8_reasonOf).cls yX8_reasonOf yX8_reasonOf ∈ lw_tbl := ⟨t_in 1038 (by decide +kernel), t_inS 59 (by decide +kernel)⟩
theorem tm_X8_reason : tM yX8_reason cX8_reason 2 (some .int) 1 := ⟨t_in 1035 (by decide +kernel), ⟨by decide +kernel, by decide +kernel, by decide +kernel⟩, t_in 9 (by decide +kernel), by decide⟩
theorem ti_X8_reason : Cond.instanceMethod yX8_reason ∈ lw_tbl ∧ Cond.selects (yX8_reason).cls yX8_reason yX8_reason ∈ lw_tbl := ⟨t_in 1033 (by decide +kernel), t_in 1034 (by decide +kernel)⟩
theorem tm_X8_component : tM yX8_component cX8_component 7 (some .int) 3 := ⟨t_in 1055 (by decide +kernel), ⟨by decide +kernel, by decide +kernel, by decide +kernel⟩, t_in 9 (by decide +kernel), by decide⟩
theorem ti_X8_component : Cond.instanceMethod yX8_component ∈ lw_tbl ∧ Cond.selects (yX8_component).cls yX8_component yX8_component ∈ lw_tbl := ⟨t_in 1054 (by decide +kernel), t_inS 62 (by decide +kernel)⟩
theorem tm_X8_lowest : tM yX8_lowest cX8_lowest 2 (some .int) 1 := ⟨t_in 758 (by decide +kernel), ⟨by decide +kernel, by decide +kernel, by decide +kernel⟩, t_in 9 (by decide +kernel), by decide⟩
theorem ts_X8_lowest : Cond.static yX8_lowest ∈ lw_tbl := t_in 757 (by decide +kernel)
theorem tm_X8_grow : tM yX8_grow cX8_grow 7 none 2 := ⟨t_in 1051 (by decide +kernel), ⟨by decide +kernel, by decide +kernel, by decide +kernel⟩, t_in 9 (by decide +kernel), by decide⟩
theorem ti_X8_grow : Cond.instanceMethod yX8_grow ∈ lw_tbl ∧ Cond.selects (yX8_grow).cls yX8_grow yX8_grow ∈ lw_tbl := ⟨t_in 1050 (by decide +kernel), t_inS 61 (by decide +kernel)⟩
theorem tm_X8_tree : tM yX8_tree cX8_tree 2 (some .int) 1 := ⟨t_in 1047 (by decide +kernel), ⟨by decide +kernel, by decide +kernel, by decide +kernel⟩, t_in 9 (by decide +kernel), by decide⟩
theorem ti_X8_tree : Cond.instanceMethod yX8_tree ∈ lw_tbl ∧ Cond.selects (yX8_tree).cls yX8_tree yX8_tree ∈ lw_tbl := ⟨t_in 1046 (by decide +kernel), t_inS 60 (by decide +kernel)⟩
theorem tm_X8_nodes : tM yX8_nodes cX8_nodes 3 (some .int) 1 := ⟨t_in 1043 (by decide +kernel), ⟨by decide +kernel, by decide +kernel, by decide +kernel⟩, t_in 9 (by decide +kernel), by decide⟩
theorem ti_X8_nodes : Cond.instanceMethod yX8_nodes ∈ lw_tbl ∧ Cond.selects (yX8_nodes).cls yX8_nodes yX8_nodes ∈ lw_tbl := ⟨t_in 1041 (by decide +kernel), t_in 1042 (by decide +kernel)⟩
theorem tm_X8_isNode : tM yX8_isNode cX8_isNode 2 (some .boolean) 1 := ⟨t_in 1063 (by decide +kernel), ⟨by decide +kernel, by decide +kernel, by decide +kernel⟩, t_in 9 (by decide +kernel), by decide⟩
theorem ti_X8_isNode : Cond.instanceMethod yX8_isNode ∈ lw_tbl ∧ Cond.selects (yX8_isNode).cls yX8_isNode yX8_isNode ∈ lw_tbl := ⟨t_in 1062 (by decide +kernel), t_inS 63 (by decide +kernel)⟩
theorem tm_X8_nodeType : tM yX8_nodeType cX8_nodeType 4 (some .int) 2 := ⟨t_in 1059 (by decide +kernel), ⟨by decide +kernel, by decide +kernel, by decide +kernel⟩, t_in 9 (by decide +kernel), by decide⟩
theorem ti_X8_nodeType : Cond.instanceMethod yX8_nodeType ∈ lw_tbl ∧ Cond.selects (yX8_nodeType).cls yX8_nodeType yX8_nodeType ∈ lw_tbl := ⟨t_in 1057 (by decide +kernel), t_in 1058 (by decide +kernel)⟩
theorem tm_X8_parent : tM yX8_parent cX8_parent 4 (some .int) 2 := ⟨t_in 1067 (by decide +kernel), ⟨by decide +kernel, by decide +kernel, by decide +kernel⟩, t_in 9 (by decide +kernel), by decide⟩
theorem ti_X8_parent : Cond.instanceMethod yX8_parent ∈ lw_tbl ∧ Cond.selects (yX8_parent).cls yX8_parent yX8_parent ∈ lw_tbl := ⟨t_in 1065 (by decide +kernel), t_in 1066 (by decide +kernel)⟩
theorem tm_X8_depth : tM yX8_depth cX8_depth 7 (some .int) 2 := ⟨t_in 1071 (by decide +kernel), ⟨by decide +kernel, by decide +kernel, by decide +kernel⟩, t_in 9 (by decide +kernel), by decide⟩
theorem ti_X8_depth : Cond.instanceMethod yX8_depth ∈ lw_tbl ∧ Cond.selects (yX8_depth).cls yX8_depth yX8_depth ∈ lw_tbl := ⟨t_in 1069 (by decide +kernel), t_in 1070 (by decide +kernel)⟩
theorem tm_X8_put : tM yX8_put cX8_put 2 none 1 := ⟨t_in 1079 (by decide +kernel), ⟨by decide +kernel, by decide +kernel, by decide +kernel⟩, t_in 9 (by decide +kernel), by decide⟩
theorem ti_X8_put : Cond.instanceMethod yX8_put ∈ lw_tbl ∧ Cond.selects (yX8_put).cls yX8_put yX8_put ∈ lw_tbl := ⟨t_in 1078 (by decide +kernel), t_inS 64 (by decide +kernel)⟩
theorem tm_X8_write : tM yX8_write cX8_write 5 none 1 := ⟨t_in 1083 (by decide +kernel), ⟨by decide +kernel, by decide +kernel, by decide +kernel⟩, t_in 9 (by decide +kernel), by decide⟩
theorem ti_X8_write : Cond.instanceMethod yX8_write ∈ lw_tbl ∧ Cond.selects (yX8_write).cls yX8_write yX8_write ∈ lw_tbl := ⟨t_in 1082 (by decide +kernel), t_inS 65 (by decide +kernel)⟩
theorem tm_X8_writeFormula : tM yX8_writeFormula cX8_writeFormula 3 (some .int) 1 := ⟨t_in 1075 (by decide +kernel), ⟨by decide +kernel, by decide +kernel, by decide +kernel⟩, t_in 9 (by decide +kernel), by decide⟩
theorem ti_X8_writeFormula : Cond.instanceMethod yX8_writeFormula ∈ lw_tbl ∧ Cond.selects (yX8_writeFormula).cls yX8_writeFormula yX8_writeFormula ∈ lw_tbl := ⟨t_in 1073 (by decide +kernel), t_in 1074 (by decide +kernel)⟩
theorem tm_X8_output : tM yX8_output cX8_output 2 (some .int) 1 := ⟨t_in 1087 (by decide +kernel), ⟨by decide +kernel, by decide +kernel, by decide +kernel⟩, t_in 9 (by decide +kernel), by decide⟩
theorem ti_X8_output : Cond.instanceMethod yX8_output ∈ lw_tbl ∧ Cond.selects (yX8_output).cls yX8_output yX8_output ∈ lw_tbl := ⟨t_in 1085 (by decide +kernel), t_in 1086 (by decide +kernel)⟩
theorem tm_X8_feed : tM yX8_feed cX8_feed 2 (some .int) 1 := ⟨t_in 1091 (by decide +kernel), ⟨by decide +kernel, by decide +kernel, by decide +kernel⟩, t_in 9 (by decide +kernel), by decide⟩
theorem ti_X8_feed : Cond.instanceMethod yX8_feed ∈ lw_tbl ∧ Cond.selects (yX8_feed).cls yX8_feed yX8_feed ∈ lw_tbl := ⟨t_in 1089 (by decide +kernel), t_in 1090 (by decide +kernel)⟩
theorem tm_X8_here : tM yX8_here cX8_here 1 (some .int) 0 := ⟨t_in 1112 (by decide +kernel), ⟨by decide +kernel, by decide +kernel, by decide +kernel⟩, t_in 9 (by decide +kernel), by decide⟩
theorem ti_X8_here : Cond.instanceMethod yX8_here ∈ lw_tbl ∧ Cond.selects (yX8_here).cls yX8_here yX8_here ∈ lw_tbl := ⟨t_in 1111 (by decide +kernel), t_inS 69 (by decide +kernel)⟩
theorem tm_X8_fail : tM yX8_fail cX8_fail 1 none 0 := ⟨t_in 1117 (by decide +kernel), ⟨by decide +kernel, by decide +kernel, by decide +kernel⟩, t_in 9 (by decide +kernel), by decide⟩
theorem ti_X8_fail : Cond.instanceMethod yX8_fail ∈ lw_tbl ∧ Cond.selects (yX8_fail).cls yX8_fail yX8_fail ∈ lw_tbl := ⟨t_in 1116 (by decide +kernel), t_inS 70 (by decide +kernel)⟩
theorem tm_X8_all : tM yX8_all cX8_all 1 (some .long) 0 := ⟨t_in 766 (by decide +kernel), ⟨by decide +kernel, by decide +kernel, by decide +kernel⟩, t_in 9 (by decide +kernel), by decide⟩
theorem ti_X8_all : Cond.instanceMethod yX8_all ∈ lw_tbl ∧ Cond.selects (yX8_all).cls yX8_all yX8_all ∈ lw_tbl := ⟨t_in 765 (by decide +kernel), t_inS 40 (by decide +kernel)⟩
theorem tm_X8_variable : tM yX8_variable cX8_variable 5 (some .long) 1 := ⟨t_in 744 (by decide +kernel), ⟨by decide +kernel, by decide +kernel, by decide +kernel⟩, t_in 9 (by decide +kernel), by decide⟩
theorem ti_X8_variable : Cond.instanceMethod yX8_variable ∈ lw_tbl ∧ Cond.selects (yX8_variable).cls yX8_variable yX8_variable ∈ lw_tbl := ⟨t_in 743 (by decide +kernel), t_inS 36 (by decide +kernel)⟩
theorem tm_X8_factor : tM yX8_factor cX8_factor 5 (some .long) 1 := ⟨t_in 1108 (by decide +kernel), ⟨by decide +kernel, by decide +kernel, by decide +kernel⟩, t_in 9 (by decide +kernel), by decide⟩
theorem ti_X8_factor : Cond.instanceMethod yX8_factor ∈ lw_tbl ∧ Cond.selects (yX8_factor).cls yX8_factor yX8_factor ∈ lw_tbl := ⟨t_in 1107 (by decide +kernel), t_inS 68 (by decide +kernel)⟩
theorem tm_X8_term : tM yX8_term cX8_term 4 (some .long) 1 := ⟨t_in 1104 (by decide +kernel), ⟨by decide +kernel, by decide +kernel, by decide +kernel⟩, t_in 9 (by decide +kernel), by decide⟩
theorem ti_X8_term : Cond.instanceMethod yX8_term ∈ lw_tbl ∧ Cond.selects (yX8_term).cls yX8_term yX8_term ∈ lw_tbl := ⟨t_in 1103 (by decide +kernel), t_inS 67 (by decide +kernel)⟩
theorem tm_X8_formula : tM yX8_formula cX8_formula 4 (some .long) 1 := ⟨t_in 1100 (by decide +kernel), ⟨by decide +kernel, by decide +kernel, by decide +kernel⟩, t_in 9 (by decide +kernel), by decide⟩
theorem ti_X8_formula : Cond.instanceMethod yX8_formula ∈ lw_tbl ∧ Cond.selects (yX8_formula).cls yX8_formula yX8_formula ∈ lw_tbl := ⟨t_in 1099 (by decide +kernel), t_inS 66 (by decide +kernel)⟩
theorem tm_X8_parse : tM yX8_parse cX8_parse 4 (some .int) 1 := ⟨t_in 1096 (by decide +kernel), ⟨by decide +kernel, by decide +kernel, by decide +kernel⟩, t_in 9 (by decide +kernel), by decide⟩
theorem ti_X8_parse : Cond.instanceMethod yX8_parse ∈ lw_tbl ∧ Cond.selects (yX8_parse).cls yX8_parse yX8_parse ∈ lw_tbl := ⟨t_in 1094 (by decide +kernel), t_in 1095 (by decide +kernel)⟩
theorem tm_X8_combine : tM yX8_combine cX8_combine 9 (some .int) 4 := ⟨t_in 1122 (by decide +kernel), ⟨by decide +kernel, by decide +kernel, by decide +kernel⟩, t_in 9 (by decide +kernel), by decide⟩
theorem ti_X8_combine : Cond.instanceMethod yX8_combine ∈ lw_tbl ∧ Cond.selects (yX8_combine).cls yX8_combine yX8_combine ∈ lw_tbl := ⟨t_in 1120 (by decide +kernel), t_in 1121 (by decide +kernel)⟩
theorem tm_X8_dual : tM yX8_dual cX8_dual 6 (some .int) 2 := ⟨t_in 1127 (by decide +kernel), ⟨by decide +kernel, by decide +kernel, by decide +kernel⟩, t_in 9 (by decide +kernel), by decide⟩
theorem ti_X8_dual : Cond.instanceMethod yX8_dual ∈ lw_tbl ∧ Cond.selects (yX8_dual).cls yX8_dual yX8_dual ∈ lw_tbl := ⟨t_in 1125 (by decide +kernel), t_in 1126 (by decide +kernel)⟩
theorem tm_X8_cofactor : tM yX8_cofactor cX8_cofactor 8 (some .int) 4 := ⟨t_in 1131 (by decide +kernel), ⟨by decide +kernel, by decide +kernel, by decide +kernel⟩, t_in 9 (by decide +kernel), by decide⟩
theorem ti_X8_cofactor : Cond.instanceMethod yX8_cofactor ∈ lw_tbl ∧ Cond.selects (yX8_cofactor).cls yX8_cofactor yX8_cofactor ∈ lw_tbl := ⟨t_in 1129 (by decide +kernel), t_in 1130 (by decide +kernel)⟩
theorem tm_X8_substitute : tM yX8_substitute cX8_substitute 9 (some .int) 4 := ⟨t_in 1135 (by decide +kernel), ⟨by decide +kernel, by decide +kernel, by decide +kernel⟩, t_in 9 (by decide +kernel), by decide⟩
theorem ti_X8_substitute : Cond.instanceMethod yX8_substitute ∈ lw_tbl ∧ Cond.selects (yX8_substitute).cls yX8_substitute yX8_substitute ∈ lw_tbl := ⟨t_in 1133 (by decide +kernel), t_in 1134 (by decide +kernel)⟩
theorem tm_X8_exchange : tM yX8_exchange cX8_exchange 9 (some .int) 4 := ⟨t_in 1139 (by decide +kernel), ⟨by decide +kernel, by decide +kernel, by decide +kernel⟩, t_in 9 (by decide +kernel), by decide⟩
theorem ti_X8_exchange : Cond.instanceMethod yX8_exchange ∈ lw_tbl ∧ Cond.selects (yX8_exchange).cls yX8_exchange yX8_exchange ∈ lw_tbl := ⟨t_in 1137 (by decide +kernel), t_in 1138 (by decide +kernel)⟩
theorem tm_X8_randomOf : tM yX8_randomOf cX8_randomOf 9 (some .long) 2 := ⟨t_in 1148 (by decide +kernel), ⟨by decide +kernel, by decide +kernel, by decide +kernel⟩, t_in 9 (by decide +kernel), by decide⟩
theorem ti_X8_randomOf : Cond.instanceMethod yX8_randomOf ∈ lw_tbl ∧ Cond.selects (yX8_randomOf).cls yX8_randomOf yX8_randomOf ∈ lw_tbl := ⟨t_in 1147 (by decide +kernel), t_inS 71 (by decide +kernel)⟩
theorem tm_X8_random : tM yX8_random cX8_random 4 (some .int) 3 := ⟨t_in 1143 (by decide +kernel), ⟨by decide +kernel, by decide +kernel, by decide +kernel⟩, t_in 9 (by decide +kernel), by decide⟩
theorem ti_X8_random : Cond.instanceMethod yX8_random ∈ lw_tbl ∧ Cond.selects (yX8_random).cls yX8_random yX8_random ∈ lw_tbl := ⟨t_in 1141 (by decide +kernel), t_in 1142 (by decide +kernel)⟩
theorem tm_X8_readOnceTrials : tM yX8_readOnceTrials cX8_readOnceTrials 6 (some .int) 3 := ⟨t_in 1153 (by decide +kernel), ⟨by decide +kernel, by decide +kernel, by decide +kernel⟩, t_in 9 (by decide +kernel), by decide⟩
theorem ti_X8_readOnceTrials : Cond.instanceMethod yX8_readOnceTrials ∈ lw_tbl ∧ Cond.selects (yX8_readOnceTrials).cls yX8_readOnceTrials yX8_readOnceTrials ∈ lw_tbl := ⟨t_in 1151 (by decide +kernel), t_in 1152 (by decide +kernel)⟩
theorem tm_X8_make : tM yX8_make cX8_make 5 none 3 := ⟨t_in 748 (by decide +kernel), ⟨by decide +kernel, by decide +kernel, by decide +kernel⟩, t_in 9 (by decide +kernel), by decide⟩
theorem ti_X8_make : Cond.instanceMethod yX8_make ∈ lw_tbl ∧ Cond.selects (yX8_make).cls yX8_make yX8_make ∈ lw_tbl := ⟨t_in 747 (by decide +kernel), t_inS 37 (by decide +kernel)⟩
theorem tm_X8_join : tM yX8_join cX8_join 7 none 3 := ⟨t_in 755 (by decide +kernel), ⟨by decide +kernel, by decide +kernel, by decide +kernel⟩, t_in 9 (by decide +kernel), by decide⟩
theorem ti_X8_join : Cond.instanceMethod yX8_join ∈ lw_tbl ∧ Cond.selects (yX8_join).cls yX8_join yX8_join ∈ lw_tbl := ⟨t_in 754 (by decide +kernel), t_inS 38 (by decide +kernel)⟩
theorem tm_X8_listFunctions : tM yX8_listFunctions cX8_listFunctions 4 none 0 := ⟨t_in 740 (by decide +kernel), ⟨by decide +kernel, by decide +kernel, by decide +kernel⟩, t_in 9 (by decide +kernel), by decide⟩
theorem ti_X8_listFunctions : Cond.instanceMethod yX8_listFunctions ∈ lw_tbl ∧ Cond.selects (yX8_listFunctions).cls yX8_listFunctions yX8_listFunctions ∈ lw_tbl := ⟨t_in 739 (by decide +kernel), t_inS 35 (by decide +kernel)⟩
theorem tm_X8_insert : tM yX8_insert cX8_insert 4 none 1 := ⟨t_in 762 (by decide +kernel), ⟨by decide +kernel, by decide +kernel, by decide +kernel⟩, t_in 9 (by decide +kernel), by decide⟩
theorem ti_X8_insert : Cond.instanceMethod yX8_insert ∈ lw_tbl ∧ Cond.selects (yX8_insert).cls yX8_insert yX8_insert ∈ lw_tbl := ⟨t_in 761 (by decide +kernel), t_inS 39 (by decide +kernel)⟩
theorem tm_X8_addSample : tM yX8_addSample cX8_addSample 3 (some .int) 2 := ⟨t_in 1158 (by decide +kernel), ⟨by decide +kernel, by decide +kernel, by decide +kernel⟩, t_in 9 (by decide +kernel), by decide⟩
theorem ti_X8_addSample : Cond.instanceMethod yX8_addSample ∈ lw_tbl ∧ Cond.selects (yX8_addSample).cls yX8_addSample yX8_addSample ∈ lw_tbl := ⟨t_in 1156 (by decide +kernel), t_in 1157 (by decide +kernel)⟩
theorem tm_X8_removeSample : tM yX8_removeSample cX8_removeSample 2 (some .int) 1 := ⟨t_in 1162 (by decide +kernel), ⟨by decide +kernel, by decide +kernel, by decide +kernel⟩, t_in 9 (by decide +kernel), by decide⟩
theorem ti_X8_removeSample : Cond.instanceMethod yX8_removeSample ∈ lw_tbl ∧ Cond.selects (yX8_removeSample).cls yX8_removeSample yX8_removeSample ∈ lw_tbl := ⟨t_in 1160 (by decide +kernel), t_in 1161 (by decide +kernel)⟩
theorem tm_X8_agrees : tM yX8_agrees cX8_agrees 3 (some .boolean) 1 := ⟨t_in 1170 (by decide +kernel), ⟨by decide +kernel, by decide +kernel, by decide +kernel⟩, t_in 9 (by decide +kernel), by decide⟩
theorem ti_X8_agrees : Cond.instanceMethod yX8_agrees ∈ lw_tbl ∧ Cond.selects (yX8_agrees).cls yX8_agrees yX8_agrees ∈ lw_tbl := ⟨t_in 1169 (by decide +kernel), t_inS 72 (by decide +kernel)⟩
theorem tm_X8_extensions : tM yX8_extensions cX8_extensions 3 (some .int) 0 := ⟨t_in 1166 (by decide +kernel), ⟨by decide +kernel, by decide +kernel, by decide +kernel⟩, t_in 9 (by decide +kernel), by decide⟩
theorem ti_X8_extensions : Cond.instanceMethod yX8_extensions ∈ lw_tbl ∧ Cond.selects (yX8_extensions).cls yX8_extensions yX8_extensions ∈ lw_tbl := ⟨t_in 1164 (by decide +kernel), t_in 1165 (by decide +kernel)⟩
theorem tm_X8_extension : tM yX8_extension cX8_extension 4 (some .long) 1 := ⟨t_in 1174 (by decide +kernel), ⟨by decide +kernel, by decide +kernel, by decide +kernel⟩, t_in 9 (by decide +kernel), by decide⟩
theorem ti_X8_extension : Cond.instanceMethod yX8_extension ∈ lw_tbl ∧ Cond.selects (yX8_extension).cls yX8_extension yX8_extension ∈ lw_tbl := ⟨t_in 1172 (by decide +kernel), t_in 1173 (by decide +kernel)⟩
theorem tm_X8_simplestExtension : tM yX8_simplestExtension cX8_simplestExtension 3 (some .long) 0 := ⟨t_in 1178 (by decide +kernel), ⟨by decide +kernel, by decide +kernel, by decide +kernel⟩, t_in 9 (by decide +kernel), by decide⟩
theorem ti_X8_simplestExtension : Cond.instanceMethod yX8_simplestExtension ∈ lw_tbl ∧ Cond.selects (yX8_simplestExtension).cls yX8_simplestExtension yX8_simplestExtension ∈ lw_tbl := ⟨t_in 1176 (by decide +kernel), t_in 1177 (by decide +kernel)⟩
theorem tm_X8_readOnceCount : tM yX8_readOnceCount cX8_readOnceCount 4 (some .int) 1 := ⟨t_in 1182 (by decide +kernel), ⟨by decide +kernel, by decide +kernel, by decide +kernel⟩, t_in 9 (by decide +kernel), by decide⟩
theorem ti_X8_readOnceCount : Cond.instanceMethod yX8_readOnceCount ∈ lw_tbl ∧ Cond.selects (yX8_readOnceCount).cls yX8_readOnceCount yX8_readOnceCount ∈ lw_tbl := ⟨t_in 1180 (by decide +kernel), t_in 1181 (by decide +kernel)⟩
theorem tm_X8_addStep : tM yX8_addStep cX8_addStep 5 (some .int) 4 := ⟨t_in 1186 (by decide +kernel), ⟨by decide +kernel, by decide +kernel, by decide +kernel⟩, t_in 9 (by decide +kernel), by decide⟩
theorem ti_X8_addStep : Cond.instanceMethod yX8_addStep ∈ lw_tbl ∧ Cond.selects (yX8_addStep).cls yX8_addStep yX8_addStep ∈ lw_tbl := ⟨t_in 1184 (by decide +kernel), t_in 1185 (by decide +kernel)⟩
theorem tm_X8_clearSteps : tM yX8_clearSteps cX8_clearSteps 2 (some .int) 0 := ⟨t_in 1190 (by decide +kernel), ⟨by decide +kernel, by decide +kernel, by decide +kernel⟩, t_in 9 (by decide +kernel), by decide⟩
theorem ti_X8_clearSteps : Cond.instanceMethod yX8_clearSteps ∈ lw_tbl ∧ Cond.selects (yX8_clearSteps).cls yX8_clearSteps yX8_clearSteps ∈ lw_tbl := ⟨t_in 1188 (by decide +kernel), t_in 1189 (by decide +kernel)⟩
theorem tm_X8_execute : tM yX8_execute cX8_execute 3 (some .int) 1 := ⟨t_in 1198 (by decide +kernel), ⟨by decide +kernel, by decide +kernel, by decide +kernel⟩, t_in 9 (by decide +kernel), by decide⟩
theorem ti_X8_execute : Cond.instanceMethod yX8_execute ∈ lw_tbl ∧ Cond.selects (yX8_execute).cls yX8_execute yX8_execute ∈ lw_tbl := ⟨t_in 1197 (by decide +kernel), t_inS 73 (by decide +kernel)⟩
theorem tm_X8_runSteps : tM yX8_runSteps cX8_runSteps 3 (some .int) 0 := ⟨t_in 1194 (by decide +kernel), ⟨by decide +kernel, by decide +kernel, by decide +kernel⟩, t_in 9 (by decide +kernel), by decide⟩
theorem ti_X8_runSteps : Cond.instanceMethod yX8_runSteps ∈ lw_tbl ∧ Cond.selects (yX8_runSteps).cls yX8_runSteps yX8_runSteps ∈ lw_tbl := ⟨t_in 1192 (by decide +kernel), t_in 1193 (by decide +kernel)⟩
theorem tm_X8_undo : tM yX8_undo cX8_undo 2 (some .int) 0 := ⟨t_in 1205 (by decide +kernel), ⟨by decide +kernel, by decide +kernel, by decide +kernel⟩, t_in 9 (by decide +kernel), by decide⟩
theorem ti_X8_undo : Cond.instanceMethod yX8_undo ∈ lw_tbl ∧ Cond.selects (yX8_undo).cls yX8_undo yX8_undo ∈ lw_tbl := ⟨t_in 1203 (by decide +kernel), t_in 1204 (by decide +kernel)⟩
theorem tm_X8_save : tM yX8_save cX8_save 2 (some .int) 0 := ⟨t_in 1209 (by decide +kernel), ⟨by decide +kernel, by decide +kernel, by decide +kernel⟩, t_in 9 (by decide +kernel), by decide⟩
theorem ti_X8_save : Cond.instanceMethod yX8_save ∈ lw_tbl ∧ Cond.selects (yX8_save).cls yX8_save yX8_save ∈ lw_tbl := ⟨t_in 1207 (by decide +kernel), t_in 1208 (by decide +kernel)⟩
theorem tm_X8_restore : tM yX8_restore cX8_restore 2 (some .int) 0 := ⟨t_in 1213 (by decide +kernel), ⟨by decide +kernel, by decide +kernel, by decide +kernel⟩, t_in 9 (by decide +kernel), by decide⟩
theorem ti_X8_restore : Cond.instanceMethod yX8_restore ∈ lw_tbl ∧ Cond.selects (yX8_restore).cls yX8_restore yX8_restore ∈ lw_tbl := ⟨t_in 1211 (by decide +kernel), t_in 1212 (by decide +kernel)⟩
theorem tm_X8_isArray : tM yX8_isArray cX8_isArray 1 (some .boolean) 1 := ⟨t_in 1221 (by decide +kernel), ⟨by decide +kernel, by decide +kernel, by decide +kernel⟩, t_in 9 (by decide +kernel), by decide⟩
theorem ts_X8_isArray : Cond.static yX8_isArray ∈ lw_tbl := t_in 1220 (by decide +kernel)
theorem tm_X8_createArray : tM yX8_createArray cX8_createArray 4 (some .int) 2 := ⟨t_in 1218 (by decide +kernel), ⟨by decide +kernel, by decide +kernel, by decide +kernel⟩, t_in 9 (by decide +kernel), by decide⟩
theorem ti_X8_createArray : Cond.instanceMethod yX8_createArray ∈ lw_tbl ∧ Cond.selects (yX8_createArray).cls yX8_createArray yX8_createArray ∈ lw_tbl := ⟨t_in 1216 (by decide +kernel), t_in 1217 (by decide +kernel)⟩
theorem tm_X8_setElement : tM yX8_setElement cX8_setElement 4 (some .int) 3 := ⟨t_in 1225 (by decide +kernel), ⟨by decide +kernel, by decide +kernel, by decide +kernel⟩, t_in 9 (by decide +kernel), by decide⟩
theorem ti_X8_setElement : Cond.instanceMethod yX8_setElement ∈ lw_tbl ∧ Cond.selects (yX8_setElement).cls yX8_setElement yX8_setElement ∈ lw_tbl := ⟨t_in 1223 (by decide +kernel), t_in 1224 (by decide +kernel)⟩
theorem tm_X8_element : tM yX8_element cX8_element 3 (some .long) 2 := ⟨t_in 1229 (by decide +kernel), ⟨by decide +kernel, by decide +kernel, by decide +kernel⟩, t_in 9 (by decide +kernel), by decide⟩
theorem ti_X8_element : Cond.instanceMethod yX8_element ∈ lw_tbl ∧ Cond.selects (yX8_element).cls yX8_element yX8_element ∈ lw_tbl := ⟨t_in 1227 (by decide +kernel), t_in 1228 (by decide +kernel)⟩
theorem tm_X8_compare : tM yX8_compare cX8_compare 5 (some .int) 2 := ⟨t_in 1234 (by decide +kernel), ⟨by decide +kernel, by decide +kernel, by decide +kernel⟩, t_in 9 (by decide +kernel), by decide⟩
theorem ti_X8_compare : Cond.instanceMethod yX8_compare ∈ lw_tbl ∧ Cond.selects (yX8_compare).cls yX8_compare yX8_compare ∈ lw_tbl := ⟨t_in 1232 (by decide +kernel), t_in 1233 (by decide +kernel)⟩
theorem tm_X8_usedSlots : tM yX8_usedSlots cX8_usedSlots 3 (some .int) 0 := ⟨t_in 934 (by decide +kernel), ⟨by decide +kernel, by decide +kernel, by decide +kernel⟩, t_in 9 (by decide +kernel), by decide⟩
theorem ti_X8_usedSlots : Cond.instanceMethod yX8_usedSlots ∈ lw_tbl ∧ Cond.selects (yX8_usedSlots).cls yX8_usedSlots yX8_usedSlots ∈ lw_tbl := ⟨t_in 932 (by decide +kernel), t_in 933 (by decide +kernel)⟩
theorem tm_X8_undoable : tM yX8_undoable cX8_undoable 1 (some .int) 0 := ⟨t_in 1239 (by decide +kernel), ⟨by decide +kernel, by decide +kernel, by decide +kernel⟩, t_in 9 (by decide +kernel), by decide⟩
theorem ti_X8_undoable : Cond.instanceMethod yX8_undoable ∈ lw_tbl ∧ Cond.selects (yX8_undoable).cls yX8_undoable yX8_undoable ∈ lw_tbl := ⟨t_in 1237 (by decide +kernel), t_in 1238 (by decide +kernel)⟩
theorem tm_J6_bitCount_0f7a4 : tM yJ6_bitCount_0f7a4 cJ6_bitCount_0f7a4 1 (some .int) 1 := ⟨t_in 420 (by decide +kernel), ⟨by decide +kernel, by decide +kernel, by decide +kernel⟩, t_in 12 (by decide +kernel), by decide⟩
theorem ts_J6_bitCount_0f7a4 : Cond.static yJ6_bitCount_0f7a4 ∈ lw_tbl := t_in 419 (by decide +kernel)
theorem tm_J13_bitCount_95d88 : tM yJ13_bitCount_95d88 cJ13_bitCount_95d88 2 (some .int) 1 := ⟨t_in 253 (by decide +kernel), ⟨by decide +kernel, by decide +kernel, by decide +kernel⟩, t_in 11 (by decide +kernel), by decide⟩
theorem ts_J13_bitCount_95d88 : Cond.static yJ13_bitCount_95d88 ∈ lw_tbl := t_in 252 (by decide +kernel)
theorem tm_J7_fill_d0a16 : tM yJ7_fill_d0a16 cJ7_fill_d0a16 5 none 2 := ⟨t_in 31 (by decide +kernel), ⟨by decide +kernel, by decide +kernel, by decide +kernel⟩, t_in 3 (by decide +kernel), by decide⟩
theorem ts_J7_fill_d0a16 : Cond.static yJ7_fill_d0a16 ∈ lw_tbl := t_in 30 (by decide +kernel)
theorem tm_J7_fill_53178 : tM yJ7_fill_53178 cJ7_fill_53178 4 none 2 := ⟨t_in 178 (by decide +kernel), ⟨by decide +kernel, by decide +kernel, by decide +kernel⟩, t_in 3 (by decide +kernel), by decide⟩
theorem ts_J7_fill_53178 : Cond.static yJ7_fill_53178 ∈ lw_tbl := t_in 177 (by decide +kernel)
theorem oi_inst : Cond.instanceMethod objectInit ∈ lw_tbl := t_in 20 (by decide +kernel)
theorem oi_code : Cond.code objectInit ⟨#[0xb1]⟩ 1 none ∈ lw_tbl := t_in 21 (by decide +kernel)
theorem ac_int : Cond.arrayClass .int ∈ lw_tbl := t_in 58 (by decide +kernel)
theorem ac_long : Cond.arrayClass .long ∈ lw_tbl := t_in 57 (by decide +kernel)
theorem ac_boolean : Cond.arrayClass .boolean ∈ lw_tbl := t_in 885 (by decide +kernel)
theorem cp_nat : Cond.native arraycopyName ∈ lw_tbl := t_in 250 (by decide +kernel)
theorem cp_st : Cond.static arraycopyName ∈ lw_tbl := t_in 249 (by decide +kernel)
theorem cp_in : Cond.initialized "java/lang/System" ∈ lw_tbl := t_in 10 (by decide +kernel)
