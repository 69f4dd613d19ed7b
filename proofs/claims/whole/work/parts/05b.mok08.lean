set_option maxRecDepth 20000 in
theorem sd_mk_X10_passes : sd_mok (yX10_passes, cX10_passes, 2, (some .int), 10, 0, sd_t_X10_passes) := ⟨sd_Gi (List.mem_of_getElem? (i := 1416) rfl) rfl, by decide, rfl, by decide +kernel, by decide, by decide +kernel⟩
set_option maxRecDepth 20000 in
theorem sd_mk_X10_passesAll : sd_mok (yX10_passesAll, cX10_passesAll, 3, none, 10, 1, sd_t_X10_passesAll) := ⟨sd_Gi (List.mem_of_getElem? (i := 1569) rfl) rfl, by decide, rfl, by decide +kernel, by decide, by decide +kernel⟩
set_option maxRecDepth 20000 in
theorem sd_mk_X10_keepsAct : sd_mok (yX10_keepsAct, cX10_keepsAct, 2, none, 10, 0, sd_t_X10_keepsAct) := ⟨sd_Gi (List.mem_of_getElem? (i := 1412) rfl) rfl, by decide, rfl, by decide +kernel, by decide, by decide +kernel⟩
set_option maxRecDepth 20000 in
theorem sd_mk_X10_undo : sd_mok (yX10_undo, cX10_undo, 2, (some .int), 10, 0, sd_t_X10_undo) := ⟨sd_Gi (List.mem_of_getElem? (i := 1400) rfl) rfl, by decide, rfl, by decide +kernel, by decide, by decide +kernel⟩
set_option maxRecDepth 20000 in
theorem sd_mk_X10_day : sd_mok (yX10_day, cX10_day, 2, (some .int), 10, 0, sd_t_X10_day) := ⟨sd_Gi (List.mem_of_getElem? (i := 1404) rfl) rfl, by decide, rfl, by decide +kernel, by decide, by decide +kernel⟩
set_option maxRecDepth 20000 in
theorem sd_mk_X10_cancels : sd_mok (yX10_cancels, cX10_cancels, 3, (some .int), 10, 1, sd_t_X10_cancels) := ⟨sd_Gi (List.mem_of_getElem? (i := 1478) rfl) rfl, by decide, rfl, by decide +kernel, by decide, by decide +kernel⟩
set_option maxRecDepth 20000 in
theorem sd_mk_X10_cancel : sd_mok (yX10_cancel, cX10_cancel, 2, (some .int), 10, 1, sd_t_X10_cancel) := ⟨sd_Gi (List.mem_of_getElem? (i := 1474) rfl) rfl, by decide, rfl, by decide +kernel, by decide, by decide +kernel⟩
set_option maxRecDepth 20000 in
theorem sd_mk_X10_order : sd_mok (yX10_order, cX10_order, 3, (some .int), 10, 1, sd_t_X10_order) := ⟨sd_Gi (List.mem_of_getElem? (i := 1482) rfl) rfl, by decide, rfl, by decide +kernel, by decide, by decide +kernel⟩
set_option maxRecDepth 20000 in
theorem sd_mk_X10_write : sd_mok (yX10_write, cX10_write, 3, (some .int), 10, 2, sd_t_X10_write) := ⟨sd_Gi (List.mem_of_getElem? (i := 1487) rfl) rfl, by decide, rfl, by decide +kernel, by decide, by decide +kernel⟩
set_option maxRecDepth 20000 in
theorem sd_mk_X10_partsBySigned : sd_mok (yX10_partsBySigned, cX10_partsBySigned, 3, none, 10, 1, sd_t_X10_partsBySigned) := ⟨sd_Gi (List.mem_of_getElem? (i := 1496) rfl) rfl, by decide, rfl, by decide +kernel, by decide, by decide +kernel⟩
set_option maxRecDepth 20000 in
theorem sd_mk_X10_claim : sd_mok (yX10_claim, cX10_claim, 4, (some .int), 10, 1, sd_t_X10_claim) := ⟨sd_Gi (List.mem_of_getElem? (i := 1491) rfl) rfl, by decide, rfl, by decide +kernel, by decide, by decide +kernel⟩
set_option maxRecDepth 20000 in
theorem sd_mk_X10_keeps : sd_mok (yX10_keeps, cX10_keeps, 2, none, 10, 0, sd_t_X10_keeps) := ⟨sd_Gi (List.mem_of_getElem? (i := 1504) rfl) rfl, by decide, rfl, by decide +kernel, by decide, by decide +kernel⟩
set_option maxRecDepth 20000 in
theorem sd_mk_X10_laysBack : sd_mok (yX10_laysBack, cX10_laysBack, 2, none, 10, 0, sd_t_X10_laysBack) := ⟨sd_Gi (List.mem_of_getElem? (i := 1512) rfl) rfl, by decide, rfl, by decide +kernel, by decide, by decide +kernel⟩
set_option maxRecDepth 20000 in
theorem sd_mk_X10_wouldBe : sd_mok (yX10_wouldBe, cX10_wouldBe, 4, (some .int), 10, 2, sd_t_X10_wouldBe) := ⟨sd_Gi (List.mem_of_getElem? (i := 1508) rfl) rfl, by decide, rfl, by decide +kernel, by decide, by decide +kernel⟩
set_option maxRecDepth 20000 in
theorem sd_mk_X10_would : sd_mok (yX10_would, cX10_would, 3, (some .int), 10, 2, sd_t_X10_would) := ⟨sd_Gi (List.mem_of_getElem? (i := 1500) rfl) rfl, by decide, rfl, by decide +kernel, by decide, by decide +kernel⟩
set_option maxRecDepth 20000 in
theorem sd_mk_X10_least : sd_mok (yX10_least, cX10_least, 4, (some .int), 10, 2, sd_t_X10_least) := ⟨sd_Gi (List.mem_of_getElem? (i := 1516) rfl) rfl, by decide, rfl, by decide +kernel, by decide, by decide +kernel⟩
set_option maxRecDepth 20000 in
theorem sd_mk_X10_worst : sd_mok (yX10_worst, cX10_worst, 8, (some .int), 10, 1, sd_t_X10_worst) := ⟨sd_Gi (List.mem_of_getElem? (i := 1520) rfl) rfl, by decide, rfl, by decide +kernel, by decide, by decide +kernel⟩
set_option maxRecDepth 20000 in
theorem sd_mk_X10_firm : sd_mok (yX10_firm, cX10_firm, 4, (some .int), 10, 0, sd_t_X10_firm) := ⟨sd_Gi (List.mem_of_getElem? (i := 1524) rfl) rfl, by decide, rfl, by decide +kernel, by decide, by decide +kernel⟩
set_option maxRecDepth 20000 in
theorem sd_mk_X10_signedBy : sd_mok (yX10_signedBy, cX10_signedBy, 4, (some .int), 10, 1, sd_t_X10_signedBy) := ⟨sd_Gi (List.mem_of_getElem? (i := 1539) rfl) rfl, by decide, rfl, by decide +kernel, by decide, by decide +kernel⟩
set_option maxRecDepth 20000 in
theorem sd_mk_X10_half : sd_mok (yX10_half, cX10_half, 6, (some .int), 10, 1, sd_t_X10_half) := ⟨sd_Gi (List.mem_of_getElem? (i := 1531) rfl) rfl, by decide, rfl, by decide +kernel, by decide, by decide +kernel⟩
set_option maxRecDepth 20000 in
theorem sd_mk_X10_agree : sd_mok (yX10_agree, cX10_agree, 7, (some .int), 10, 2, sd_t_X10_agree) := ⟨sd_Gi (List.mem_of_getElem? (i := 1543) rfl) rfl, by decide, rfl, by decide +kernel, by decide, by decide +kernel⟩
set_option maxRecDepth 20000 in
theorem sd_mk_X10_waysOf : sd_mok (yX10_waysOf, cX10_waysOf, 3, (some .int), 10, 1, sd_t_X10_waysOf) := ⟨sd_Gi (List.mem_of_getElem? (i := 1551) rfl) rfl, by decide, rfl, by decide +kernel, by decide, by decide +kernel⟩
set_option maxRecDepth 20000 in
theorem sd_mk_X10_rowOf : sd_mok (yX10_rowOf, cX10_rowOf, 8, none, 10, 1, sd_t_X10_rowOf) := ⟨sd_Gi (List.mem_of_getElem? (i := 1555) rfl) rfl, by decide, rfl, by decide +kernel, by decide, by decide +kernel⟩
set_option maxRecDepth 20000 in
theorem sd_mk_X10_triesRow : sd_mok (yX10_triesRow, cX10_triesRow, 5, none, 10, 1, sd_t_X10_triesRow) := ⟨sd_Gi (List.mem_of_getElem? (i := 1559) rfl) rfl, by decide, rfl, by decide +kernel, by decide, by decide +kernel⟩
set_option maxRecDepth 20000 in
theorem sd_mk_X10_rows : sd_mok (yX10_rows, cX10_rows, 3, (some .int), 10, 1, sd_t_X10_rows) := ⟨sd_Gi (List.mem_of_getElem? (i := 1547) rfl) rfl, by decide, rfl, by decide +kernel, by decide, by decide +kernel⟩
theorem sd_mc8 : ∀ q ∈ sd_mL8, sd_mok q := List.forall_mem_cons.mpr ⟨sd_mk_X10_passes, List.forall_mem_cons.mpr ⟨sd_mk_X10_passesAll, List.forall_mem_cons.mpr ⟨sd_mk_X10_keepsAct, List.forall_mem_cons.mpr ⟨sd_mk_X10_undo, List.forall_mem_cons.mpr ⟨sd_mk_X10_day, List.forall_mem_cons.mpr ⟨sd_mk_X10_cancels, List.forall_mem_cons.mpr ⟨sd_mk_X10_cancel, List.forall_mem_cons.mpr ⟨sd_mk_X10_order, List.forall_mem_cons.mpr ⟨sd_mk_X10_write, List.forall_mem_cons.mpr ⟨sd_mk_X10_partsBySigned, List.forall_mem_cons.mpr ⟨sd_mk_X10_claim, List.forall_mem_cons.mpr ⟨sd_mk_X10_keeps, List.forall_mem_cons.mpr ⟨sd_mk_X10_laysBack, List.forall_mem_cons.mpr ⟨sd_mk_X10_wouldBe, List.forall_mem_cons.mpr ⟨sd_mk_X10_would, List.forall_mem_cons.mpr ⟨sd_mk_X10_least, List.forall_mem_cons.mpr ⟨sd_mk_X10_worst, List.forall_mem_cons.mpr ⟨sd_mk_X10_firm, List.forall_mem_cons.mpr ⟨sd_mk_X10_signedBy, List.forall_mem_cons.mpr ⟨sd_mk_X10_half, List.forall_mem_cons.mpr ⟨sd_mk_X10_agree, List.forall_mem_cons.mpr ⟨sd_mk_X10_waysOf, List.forall_mem_cons.mpr ⟨sd_mk_X10_rowOf, List.forall_mem_cons.mpr ⟨sd_mk_X10_triesRow, List.forall_mem_cons.mpr ⟨sd_mk_X10_rows, fun _ h => absurd h List.not_mem_nil⟩⟩⟩⟩⟩⟩⟩⟩⟩⟩⟩⟩⟩⟩⟩⟩⟩⟩⟩⟩⟩⟩⟩⟩⟩
