set_option maxRecDepth 20000 in
theorem sd_mk_X9_slip : sd_mok (yX9_slip, cX9_slip, 2, (some .int), 9, 0, sd_t_X9_slip) := ⟨sd_Gi (List.mem_of_getElem? (i := 480) rfl) rfl, by decide, rfl, by decide +kernel, by decide, by decide +kernel⟩
set_option maxRecDepth 20000 in
theorem sd_mk_X9_rule : sd_mok (yX9_rule, cX9_rule, 2, (some .int), 9, 0, sd_t_X9_rule) := ⟨sd_Gi (List.mem_of_getElem? (i := 620) rfl) rfl, by decide, rfl, by decide +kernel, by decide, by decide +kernel⟩
set_option maxRecDepth 20000 in
theorem sd_mk_X9_force : sd_mok (yX9_force, cX9_force, 3, (some .int), 9, 1, sd_t_X9_force) := ⟨sd_Gi (List.mem_of_getElem? (i := 668) rfl) rfl, by decide, rfl, by decide +kernel, by decide, by decide +kernel⟩
set_option maxRecDepth 20000 in
theorem sd_mk_X9_offer : sd_mok (yX9_offer, cX9_offer, 4, (some .int), 9, 2, sd_t_X9_offer) := ⟨sd_Gi (List.mem_of_getElem? (i := 672) rfl) rfl, by decide, rfl, by decide +kernel, by decide, by decide +kernel⟩
set_option maxRecDepth 20000 in
theorem sd_mk_X9_need : sd_mok (yX9_need, cX9_need, 5, (some .int), 9, 3, sd_t_X9_need) := ⟨sd_Gi (List.mem_of_getElem? (i := 680) rfl) rfl, by decide, rfl, by decide +kernel, by decide, by decide +kernel⟩
set_option maxRecDepth 20000 in
theorem sd_mk_X9_line : sd_mok (yX9_line, cX9_line, 2, (some .int), 9, 1, sd_t_X9_line) := ⟨sd_Gi (List.mem_of_getElem? (i := 708) rfl) rfl, by decide, rfl, by decide +kernel, by decide, by decide +kernel⟩
set_option maxRecDepth 20000 in
theorem sd_mk_X9_out : sd_mok (yX9_out, cX9_out, 2, (some .int), 9, 1, sd_t_X9_out) := ⟨sd_Gi (List.mem_of_getElem? (i := 712) rfl) rfl, by decide, rfl, by decide +kernel, by decide, by decide +kernel⟩
set_option maxRecDepth 20000 in
theorem sd_mk_X9_count : sd_mok (yX9_count, cX9_count, 3, (some .int), 9, 1, sd_t_X9_count) := ⟨sd_Gi (List.mem_of_getElem? (i := 716) rfl) rfl, by decide, rfl, by decide +kernel, by decide, by decide +kernel⟩
set_option maxRecDepth 20000 in
theorem sd_mk_X9_day : sd_mok (yX9_day, cX9_day, 2, (some .int), 9, 0, sd_t_X9_day) := ⟨sd_Gi (List.mem_of_getElem? (i := 734) rfl) rfl, by decide, rfl, by decide +kernel, by decide, by decide +kernel⟩
set_option maxRecDepth 20000 in
theorem sd_mk_X9_cancel : sd_mok (yX9_cancel, cX9_cancel, 2, (some .int), 9, 1, sd_t_X9_cancel) := ⟨sd_Gi (List.mem_of_getElem? (i := 824) rfl) rfl, by decide, rfl, by decide +kernel, by decide, by decide +kernel⟩
set_option maxRecDepth 20000 in
theorem sd_mk_X9_order : sd_mok (yX9_order, cX9_order, 2, (some .int), 9, 1, sd_t_X9_order) := ⟨sd_Gi (List.mem_of_getElem? (i := 833) rfl) rfl, by decide, rfl, by decide +kernel, by decide, by decide +kernel⟩
set_option maxRecDepth 20000 in
theorem sd_mk_X9_write : sd_mok (yX9_write, cX9_write, 3, (some .int), 9, 2, sd_t_X9_write) := ⟨sd_Gi (List.mem_of_getElem? (i := 845) rfl) rfl, by decide, rfl, by decide +kernel, by decide, by decide +kernel⟩
set_option maxRecDepth 20000 in
theorem sd_mk_X9_claim : sd_mok (yX9_claim, cX9_claim, 5, (some .int), 9, 1, sd_t_X9_claim) := ⟨sd_Gi (List.mem_of_getElem? (i := 853) rfl) rfl, by decide, rfl, by decide +kernel, by decide, by decide +kernel⟩
set_option maxRecDepth 20000 in
theorem sd_mk_X9_undo : sd_mok (yX9_undo, cX9_undo, 1, (some .int), 9, 0, sd_t_X9_undo) := ⟨sd_Gi (List.mem_of_getElem? (i := 862) rfl) rfl, by decide, rfl, by decide +kernel, by decide, by decide +kernel⟩
set_option maxRecDepth 20000 in
theorem sd_mk_X9_remember : sd_mok (yX9_remember, cX9_remember, 1, none, 9, 0, sd_t_X9_remember) := ⟨sd_Gi (List.mem_of_getElem? (i := 738) rfl) rfl, by decide, rfl, by decide +kernel, by decide, by decide +kernel⟩
set_option maxRecDepth 20000 in
theorem sd_mk_X9_would : sd_mok (yX9_would, cX9_would, 3, (some .int), 9, 2, sd_t_X9_would) := ⟨sd_Gi (List.mem_of_getElem? (i := 866) rfl) rfl, by decide, rfl, by decide +kernel, by decide, by decide +kernel⟩
set_option maxRecDepth 20000 in
theorem sd_mk_X9_least : sd_mok (yX9_least, cX9_least, 4, (some .int), 9, 2, sd_t_X9_least) := ⟨sd_Gi (List.mem_of_getElem? (i := 874) rfl) rfl, by decide, rfl, by decide +kernel, by decide, by decide +kernel⟩
set_option maxRecDepth 20000 in
theorem sd_mk_X9_signedIfWritten : sd_mok (yX9_signedIfWritten, cX9_signedIfWritten, 3, (some .int), 9, 2, sd_t_X9_signedIfWritten) := ⟨sd_Gi (List.mem_of_getElem? (i := 870) rfl) rfl, by decide, rfl, by decide +kernel, by decide, by decide +kernel⟩
set_option maxRecDepth 20000 in
theorem sd_mk_X9_worst : sd_mok (yX9_worst, cX9_worst, 6, (some .int), 9, 1, sd_t_X9_worst) := ⟨sd_Gi (List.mem_of_getElem? (i := 878) rfl) rfl, by decide, rfl, by decide +kernel, by decide, by decide +kernel⟩
set_option maxRecDepth 20000 in
theorem sd_mk_X9_firm : sd_mok (yX9_firm, cX9_firm, 4, (some .int), 9, 0, sd_t_X9_firm) := ⟨sd_Gi (List.mem_of_getElem? (i := 886) rfl) rfl, by decide, rfl, by decide +kernel, by decide, by decide +kernel⟩
set_option maxRecDepth 20000 in
theorem sd_mk_X9_tryStriking : sd_mok (yX9_tryStriking, cX9_tryStriking, 2, none, 9, 1, sd_t_X9_tryStriking) := ⟨sd_Gi (List.mem_of_getElem? (i := 882) rfl) rfl, by decide, rfl, by decide +kernel, by decide, by decide +kernel⟩
set_option maxRecDepth 20000 in
theorem sd_mk_X9_half : sd_mok (yX9_half, cX9_half, 6, (some .int), 9, 1, sd_t_X9_half) := ⟨sd_Gi (List.mem_of_getElem? (i := 890) rfl) rfl, by decide, rfl, by decide +kernel, by decide, by decide +kernel⟩
set_option maxRecDepth 20000 in
theorem sd_mk_X9_agree : sd_mok (yX9_agree, cX9_agree, 7, (some .int), 9, 2, sd_t_X9_agree) := ⟨sd_Gi (List.mem_of_getElem? (i := 895) rfl) rfl, by decide, rfl, by decide +kernel, by decide, by decide +kernel⟩
set_option maxRecDepth 20000 in
theorem sd_mk_X9_isAgreed : sd_mok (yX9_isAgreed, cX9_isAgreed, 4, (some .boolean), 9, 1, sd_t_X9_isAgreed) := ⟨sd_Gi (List.mem_of_getElem? (i := 899) rfl) rfl, by decide, rfl, by decide +kernel, by decide, by decide +kernel⟩
set_option maxRecDepth 20000 in
theorem sd_mk_X9_rows : sd_mok (yX9_rows, cX9_rows, 8, (some .int), 9, 1, sd_t_X9_rows) := ⟨sd_Gi (List.mem_of_getElem? (i := 903) rfl) rfl, by decide, rfl, by decide +kernel, by decide, by decide +kernel⟩
theorem sd_mc3 : ∀ q ∈ sd_mL3, sd_mok q := List.forall_mem_cons.mpr ⟨sd_mk_X9_slip, List.forall_mem_cons.mpr ⟨sd_mk_X9_rule, List.forall_mem_cons.mpr ⟨sd_mk_X9_force, List.forall_mem_cons.mpr ⟨sd_mk_X9_offer, List.forall_mem_cons.mpr ⟨sd_mk_X9_need, List.forall_mem_cons.mpr ⟨sd_mk_X9_line, List.forall_mem_cons.mpr ⟨sd_mk_X9_out, List.forall_mem_cons.mpr ⟨sd_mk_X9_count, List.forall_mem_cons.mpr ⟨sd_mk_X9_day, List.forall_mem_cons.mpr ⟨sd_mk_X9_cancel, List.forall_mem_cons.mpr ⟨sd_mk_X9_order, List.forall_mem_cons.mpr ⟨sd_mk_X9_write, List.forall_mem_cons.mpr ⟨sd_mk_X9_claim, List.forall_mem_cons.mpr ⟨sd_mk_X9_undo, List.forall_mem_cons.mpr ⟨sd_mk_X9_remember, List.forall_mem_cons.mpr ⟨sd_mk_X9_would, List.forall_mem_cons.mpr ⟨sd_mk_X9_least, List.forall_mem_cons.mpr ⟨sd_mk_X9_signedIfWritten, List.forall_mem_cons.mpr ⟨sd_mk_X9_worst, List.forall_mem_cons.mpr ⟨sd_mk_X9_firm, List.forall_mem_cons.mpr ⟨sd_mk_X9_tryStriking, List.forall_mem_cons.mpr ⟨sd_mk_X9_half, List.forall_mem_cons.mpr ⟨sd_mk_X9_agree, List.forall_mem_cons.mpr ⟨sd_mk_X9_isAgreed, List.forall_mem_cons.mpr ⟨sd_mk_X9_rows, fun _ h => absurd h List.not_mem_nil⟩⟩⟩⟩⟩⟩⟩⟩⟩⟩⟩⟩⟩⟩⟩⟩⟩⟩⟩⟩⟩⟩⟩⟩⟩
