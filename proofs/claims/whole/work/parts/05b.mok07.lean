set_option maxRecDepth 20000 in
theorem sd_mk_X10_isLine : sd_mok (yX10_isLine, cX10_isLine, 2, (some .boolean), 10, 1, sd_t_X10_isLine) := ⟨sd_Gi (List.mem_of_getElem? (i := 1359) rfl) rfl, by decide, rfl, by decide +kernel, by decide, by decide +kernel⟩
set_option maxRecDepth 20000 in
theorem sd_mk_X10_isWaiting : sd_mok (yX10_isWaiting, cX10_isWaiting, 2, (some .boolean), 10, 1, sd_t_X10_isWaiting) := ⟨sd_Gi (List.mem_of_getElem? (i := 1424) rfl) rfl, by decide, rfl, by decide +kernel, by decide, by decide +kernel⟩
set_option maxRecDepth 20000 in
theorem sd_mk_X10_onesAt : sd_mok (yX10_onesAt, cX10_onesAt, 4, (some .int), 10, 1, sd_t_X10_onesAt) := ⟨sd_Gi (List.mem_of_getElem? (i := 1432) rfl) rfl, by decide, rfl, by decide +kernel, by decide, by decide +kernel⟩
set_option maxRecDepth 20000 in
theorem sd_mk_X10_placed : sd_mok (yX10_placed, cX10_placed, 3, (some .int), 10, 0, sd_t_X10_placed) := ⟨sd_Gi (List.mem_of_getElem? (i := 1384) rfl) rfl, by decide, rfl, by decide +kernel, by decide, by decide +kernel⟩
set_option maxRecDepth 20000 in
theorem sd_mk_X10_shortNow : sd_mok (yX10_shortNow, cX10_shortNow, 1, (some .int), 10, 0, sd_t_X10_shortNow) := ⟨sd_Gi (List.mem_of_getElem? (i := 1388) rfl) rfl, by decide, rfl, by decide +kernel, by decide, by decide +kernel⟩
set_option maxRecDepth 20000 in
theorem sd_mk_X10_needsOf : sd_mok (yX10_needsOf, cX10_needsOf, 4, (some .int), 10, 1, sd_t_X10_needsOf) := ⟨sd_Gi (List.mem_of_getElem? (i := 1351) rfl) rfl, by decide, rfl, by decide +kernel, by decide, by decide +kernel⟩
set_option maxRecDepth 20000 in
theorem sd_mk_X10_parts : sd_mok (yX10_parts, cX10_parts, 9, none, 10, 1, sd_t_X10_parts) := ⟨sd_Gi (List.mem_of_getElem? (i := 1367) rfl) rfl, by decide, rfl, by decide +kernel, by decide, by decide +kernel⟩
set_option maxRecDepth 20000 in
theorem sd_mk_X10_signs : sd_mok (yX10_signs, cX10_signs, 6, none, 10, 0, sd_t_X10_signs) := ⟨sd_Gi (List.mem_of_getElem? (i := 1363) rfl) rfl, by decide, rfl, by decide +kernel, by decide, by decide +kernel⟩
set_option maxRecDepth 20000 in
theorem sd_mk_X10_placeOf : sd_mok (yX10_placeOf, cX10_placeOf, 3, (some .int), 10, 1, sd_t_X10_placeOf) := ⟨sd_Gi (List.mem_of_getElem? (i := 1371) rfl) rfl, by decide, rfl, by decide +kernel, by decide, by decide +kernel⟩
set_option maxRecDepth 20000 in
theorem sd_mk_X10_signedOf : sd_mok (yX10_signedOf, cX10_signedOf, 2, (some .int), 10, 1, sd_t_X10_signedOf) := ⟨sd_Gi (List.mem_of_getElem? (i := 1355) rfl) rfl, by decide, rfl, by decide +kernel, by decide, by decide +kernel⟩
set_option maxRecDepth 20000 in
theorem sd_mk_X10_signedAll : sd_mok (yX10_signedAll, cX10_signedAll, 3, (some .int), 10, 0, sd_t_X10_signedAll) := ⟨sd_Gi (List.mem_of_getElem? (i := 1535) rfl) rfl, by decide, rfl, by decide +kernel, by decide, by decide +kernel⟩
set_option maxRecDepth 20000 in
theorem sd_mk_X10_holds : sd_mok (yX10_holds, cX10_holds, 4, (some .boolean), 10, 1, sd_t_X10_holds) := ⟨sd_Gi (List.mem_of_getElem? (i := 1380) rfl) rfl, by decide, rfl, by decide +kernel, by decide, by decide +kernel⟩
set_option maxRecDepth 20000 in
theorem sd_mk_X10_hasAll : sd_mok (yX10_hasAll, cX10_hasAll, 3, (some .boolean), 10, 1, sd_t_X10_hasAll) := ⟨sd_Gi (List.mem_of_getElem? (i := 1466) rfl) rfl, by decide, rfl, by decide +kernel, by decide, by decide +kernel⟩
set_option maxRecDepth 20000 in
theorem sd_mk_X10_goesOut : sd_mok (yX10_goesOut, cX10_goesOut, 4, none, 10, 1, sd_t_X10_goesOut) := ⟨sd_Gi (List.mem_of_getElem? (i := 1470) rfl) rfl, by decide, rfl, by decide +kernel, by decide, by decide +kernel⟩
set_option maxRecDepth 20000 in
theorem sd_mk_X10_settlesAll : sd_mok (yX10_settlesAll, cX10_settlesAll, 2, none, 10, 0, sd_t_X10_settlesAll) := ⟨sd_Gi (List.mem_of_getElem? (i := 1462) rfl) rfl, by decide, rfl, by decide +kernel, by decide, by decide +kernel⟩
set_option maxRecDepth 20000 in
theorem sd_mk_X10_takes : sd_mok (yX10_takes, cX10_takes, 2, none, 10, 1, sd_t_X10_takes) := ⟨sd_Gi (List.mem_of_getElem? (i := 1458) rfl) rfl, by decide, rfl, by decide +kernel, by decide, by decide +kernel⟩
set_option maxRecDepth 20000 in
theorem sd_mk_X10_begins : sd_mok (yX10_begins, cX10_begins, 2, none, 10, 0, sd_t_X10_begins) := ⟨sd_Gi (List.mem_of_getElem? (i := 1331) rfl) rfl, by decide, rfl, by decide +kernel, by decide, by decide +kernel⟩
set_option maxRecDepth 20000 in
theorem sd_mk_X10_force : sd_mok (yX10_force, cX10_force, 3, (some .int), 10, 1, sd_t_X10_force) := ⟨sd_Gi (List.mem_of_getElem? (i := 1335) rfl) rfl, by decide, rfl, by decide +kernel, by decide, by decide +kernel⟩
set_option maxRecDepth 20000 in
theorem sd_mk_X10_offer : sd_mok (yX10_offer, cX10_offer, 3, (some .int), 10, 2, sd_t_X10_offer) := ⟨sd_Gi (List.mem_of_getElem? (i := 1343) rfl) rfl, by decide, rfl, by decide +kernel, by decide, by decide +kernel⟩
set_option maxRecDepth 20000 in
theorem sd_mk_X10_need : sd_mok (yX10_need, cX10_need, 6, (some .int), 10, 3, sd_t_X10_need) := ⟨sd_Gi (List.mem_of_getElem? (i := 1375) rfl) rfl, by decide, rfl, by decide +kernel, by decide, by decide +kernel⟩
set_option maxRecDepth 20000 in
theorem sd_mk_X10_line : sd_mok (yX10_line, cX10_line, 2, (some .int), 10, 1, sd_t_X10_line) := ⟨sd_Gi (List.mem_of_getElem? (i := 1392) rfl) rfl, by decide, rfl, by decide +kernel, by decide, by decide +kernel⟩
set_option maxRecDepth 20000 in
theorem sd_mk_X10_out : sd_mok (yX10_out, cX10_out, 2, (some .int), 10, 1, sd_t_X10_out) := ⟨sd_Gi (List.mem_of_getElem? (i := 1396) rfl) rfl, by decide, rfl, by decide +kernel, by decide, by decide +kernel⟩
set_option maxRecDepth 20000 in
theorem sd_mk_X10_summedBy : sd_mok (yX10_summedBy, cX10_summedBy, 4, (some .long), 10, 1, sd_t_X10_summedBy) := ⟨sd_Gi (List.mem_of_getElem? (i := 1439) rfl) rfl, by decide, rfl, by decide +kernel, by decide, by decide +kernel⟩
set_option maxRecDepth 20000 in
theorem sd_mk_X10_sumOf : sd_mok (yX10_sumOf, cX10_sumOf, 2, (some .long), 10, 1, sd_t_X10_sumOf) := ⟨sd_Gi (List.mem_of_getElem? (i := 1428) rfl) rfl, by decide, rfl, by decide +kernel, by decide, by decide +kernel⟩
set_option maxRecDepth 20000 in
theorem sd_mk_X10_choice : sd_mok (yX10_choice, cX10_choice, 7, (some .int), 10, 0, sd_t_X10_choice) := ⟨sd_Gi (List.mem_of_getElem? (i := 1420) rfl) rfl, by decide, rfl, by decide +kernel, by decide, by decide +kernel⟩
theorem sd_mc7 : ∀ q ∈ sd_mL7, sd_mok q := List.forall_mem_cons.mpr ⟨sd_mk_X10_isLine, List.forall_mem_cons.mpr ⟨sd_mk_X10_isWaiting, List.forall_mem_cons.mpr ⟨sd_mk_X10_onesAt, List.forall_mem_cons.mpr ⟨sd_mk_X10_placed, List.forall_mem_cons.mpr ⟨sd_mk_X10_shortNow, List.forall_mem_cons.mpr ⟨sd_mk_X10_needsOf, List.forall_mem_cons.mpr ⟨sd_mk_X10_parts, List.forall_mem_cons.mpr ⟨sd_mk_X10_signs, List.forall_mem_cons.mpr ⟨sd_mk_X10_placeOf, List.forall_mem_cons.mpr ⟨sd_mk_X10_signedOf, List.forall_mem_cons.mpr ⟨sd_mk_X10_signedAll, List.forall_mem_cons.mpr ⟨sd_mk_X10_holds, List.forall_mem_cons.mpr ⟨sd_mk_X10_hasAll, List.forall_mem_cons.mpr ⟨sd_mk_X10_goesOut, List.forall_mem_cons.mpr ⟨sd_mk_X10_settlesAll, List.forall_mem_cons.mpr ⟨sd_mk_X10_takes, List.forall_mem_cons.mpr ⟨sd_mk_X10_begins, List.forall_mem_cons.mpr ⟨sd_mk_X10_force, List.forall_mem_cons.mpr ⟨sd_mk_X10_offer, List.forall_mem_cons.mpr ⟨sd_mk_X10_need, List.forall_mem_cons.mpr ⟨sd_mk_X10_line, List.forall_mem_cons.mpr ⟨sd_mk_X10_out, List.forall_mem_cons.mpr ⟨sd_mk_X10_summedBy, List.forall_mem_cons.mpr ⟨sd_mk_X10_sumOf, List.forall_mem_cons.mpr ⟨sd_mk_X10_choice, fun _ h => absurd h List.not_mem_nil⟩⟩⟩⟩⟩⟩⟩⟩⟩⟩⟩⟩⟩⟩⟩⟩⟩⟩⟩⟩⟩⟩⟩⟩⟩
