set_option maxRecDepth 20000 in
theorem sd_mk_X0_init : sd_mok (yX0_init, cX0_init, 1, none, 0, 0, sd_t_X0_init) := ⟨sd_Gi (List.mem_of_getElem? (i := 299) rfl) rfl, by decide, rfl, by decide +kernel, by decide, by decide +kernel⟩
set_option maxRecDepth 20000 in
theorem sd_mk_X0_copyFrom : sd_mok (yX0_copyFrom, cX0_copyFrom, 2, none, 0, 1, sd_t_X0_copyFrom) := ⟨sd_Gi (List.mem_of_getElem? (i := 742) rfl) rfl, by decide, rfl, by decide +kernel, by decide, by decide +kernel⟩
set_option maxRecDepth 20000 in
theorem sd_mk_X0_begin : sd_mok (yX0_begin, cX0_begin, 3, none, 0, 1, sd_t_X0_begin) := ⟨sd_Gi (List.mem_of_getElem? (i := 615) rfl) rfl, by decide, rfl, by decide +kernel, by decide, by decide +kernel⟩
set_option maxRecDepth 20000 in
theorem sd_mk_X0_isOn : sd_mok (yX0_isOn, cX0_isOn, 2, (some .boolean), 0, 1, sd_t_X0_isOn) := ⟨sd_Gi (List.mem_of_getElem? (i := 692) rfl) rfl, by decide, rfl, by decide +kernel, by decide, by decide +kernel⟩
set_option maxRecDepth 20000 in
theorem sd_mk_X0_bitsWhere : sd_mok (yX0_bitsWhere, cX0_bitsWhere, 5, (some .int), 0, 2, sd_t_X0_bitsWhere) := ⟨sd_Gi (List.mem_of_getElem? (i := 720) rfl) rfl, by decide, rfl, by decide +kernel, by decide, by decide +kernel⟩
set_option maxRecDepth 20000 in
theorem sd_mk_X0_lineBits : sd_mok (yX0_lineBits, cX0_lineBits, 1, (some .int), 0, 0, sd_t_X0_lineBits) := ⟨sd_Gi (List.mem_of_getElem? (i := 724) rfl) rfl, by decide, rfl, by decide +kernel, by decide, by decide +kernel⟩
set_option maxRecDepth 20000 in
theorem sd_mk_X0_lacking : sd_mok (yX0_lacking, cX0_lacking, 1, (some .int), 0, 0, sd_t_X0_lacking) := ⟨sd_Gi (List.mem_of_getElem? (i := 701) rfl) rfl, by decide, rfl, by decide +kernel, by decide, by decide +kernel⟩
set_option maxRecDepth 20000 in
theorem sd_mk_X0_signedOf : sd_mok (yX0_signedOf, cX0_signedOf, 4, (some .int), 0, 1, sd_t_X0_signedOf) := ⟨sd_Gi (List.mem_of_getElem? (i := 730) rfl) rfl, by decide, rfl, by decide +kernel, by decide, by decide +kernel⟩
set_option maxRecDepth 20000 in
theorem sd_mk_X0_takeIn : sd_mok (yX0_takeIn, cX0_takeIn, 2, none, 0, 1, sd_t_X0_takeIn) := ⟨sd_Gi (List.mem_of_getElem? (i := 794) rfl) rfl, by decide, rfl, by decide +kernel, by decide, by decide +kernel⟩
set_option maxRecDepth 20000 in
theorem sd_mk_X0_reorder : sd_mok (yX0_reorder, cX0_reorder, 2, none, 0, 1, sd_t_X0_reorder) := ⟨sd_Gi (List.mem_of_getElem? (i := 840) rfl) rfl, by decide, rfl, by decide +kernel, by decide, by decide +kernel⟩
set_option maxRecDepth 20000 in
theorem sd_mk_X0_rewrite : sd_mok (yX0_rewrite, cX0_rewrite, 3, none, 0, 2, sd_t_X0_rewrite) := ⟨sd_Gi (List.mem_of_getElem? (i := 849) rfl) rfl, by decide, rfl, by decide +kernel, by decide, by decide +kernel⟩
set_option maxRecDepth 20000 in
theorem sd_mk_X0_leave : sd_mok (yX0_leave, cX0_leave, 4, none, 0, 1, sd_t_X0_leave) := ⟨sd_Gi (List.mem_of_getElem? (i := 820) rfl) rfl, by decide, rfl, by decide +kernel, by decide, by decide +kernel⟩
set_option maxRecDepth 20000 in
theorem sd_mk_X0_strike : sd_mok (yX0_strike, cX0_strike, 4, (some .int), 0, 2, sd_t_X0_strike) := ⟨sd_Gi (List.mem_of_getElem? (i := 828) rfl) rfl, by decide, rfl, by decide +kernel, by decide, by decide +kernel⟩
set_option maxRecDepth 20000 in
theorem sd_mk_X0_settle : sd_mok (yX0_settle, cX0_settle, 5, (some .int), 0, 1, sd_t_X0_settle) := ⟨sd_Gi (List.mem_of_getElem? (i := 811) rfl) rfl, by decide, rfl, by decide +kernel, by decide, by decide +kernel⟩
set_option maxRecDepth 20000 in
theorem sd_mk_X0_firstInNeed : sd_mok (yX0_firstInNeed, cX0_firstInNeed, 4, (some .int), 0, 1, sd_t_X0_firstInNeed) := ⟨sd_Gi (List.mem_of_getElem? (i := 815) rfl) rfl, by decide, rfl, by decide +kernel, by decide, by decide +kernel⟩
set_option maxRecDepth 20000 in
theorem sd_mk_X0_holds : sd_mok (yX0_holds, cX0_holds, 4, (some .boolean), 0, 2, sd_t_X0_holds) := ⟨sd_Gi (List.mem_of_getElem? (i := 696) rfl) rfl, by decide, rfl, by decide +kernel, by decide, by decide +kernel⟩
set_option maxRecDepth 20000 in
theorem sd_mk_X0_sign : sd_mok (yX0_sign, cX0_sign, 6, none, 0, 0, sd_t_X0_sign) := ⟨sd_Gi (List.mem_of_getElem? (i := 798) rfl) rfl, by decide, rfl, by decide +kernel, by decide, by decide +kernel⟩
set_option maxRecDepth 20000 in
theorem sd_mk_X0_partPence : sd_mok (yX0_partPence, cX0_partPence, 3, none, 0, 2, sd_t_X0_partPence) := ⟨sd_Gi (List.mem_of_getElem? (i := 857) rfl) rfl, by decide, rfl, by decide +kernel, by decide, by decide +kernel⟩
set_option maxRecDepth 20000 in
theorem sd_mk_X0_partAmong : sd_mok (yX0_partAmong, cX0_partAmong, 10, none, 0, 4, sd_t_X0_partAmong) := ⟨sd_Gi (List.mem_of_getElem? (i := 803) rfl) rfl, by decide, rfl, by decide +kernel, by decide, by decide +kernel⟩
set_option maxRecDepth 20000 in
theorem sd_mk_X0_lostMost : sd_mok (yX0_lostMost, cX0_lostMost, 9, (some .int), 0, 4, sd_t_X0_lostMost) := ⟨sd_Gi (List.mem_of_getElem? (i := 807) rfl) rfl, by decide, rfl, by decide +kernel, by decide, by decide +kernel⟩
set_option maxRecDepth 20000 in
theorem sd_mk_X1_init : sd_mok (yX1_init, cX1_init, 1, none, 1, 0, sd_t_X1_init) := ⟨sd_Gi (List.mem_of_getElem? (i := 403) rfl) rfl, by decide, rfl, by decide +kernel, by decide, by decide +kernel⟩
set_option maxRecDepth 20000 in
theorem sd_mk_X1_pass : sd_mok (yX1_pass, cX1_pass, 5, (some .int), 1, 3, sd_t_X1_pass) := ⟨sd_Gi (List.mem_of_getElem? (i := 757) rfl) rfl, by decide, rfl, by decide +kernel, by decide, by decide +kernel⟩
set_option maxRecDepth 20000 in
theorem sd_mk_X1_choose : sd_mok (yX1_choose, cX1_choose, 11, (some .int), 1, 3, sd_t_X1_choose) := ⟨sd_Gi (List.mem_of_getElem? (i := 761) rfl) rfl, by decide, rfl, by decide +kernel, by decide, by decide +kernel⟩
set_option maxRecDepth 20000 in
theorem sd_mk_X1_layWords : sd_mok (yX1_layWords, cX1_layWords, 3, none, 1, 2, sd_t_X1_layWords) := ⟨sd_Gi (List.mem_of_getElem? (i := 769) rfl) rfl, by decide, rfl, by decide +kernel, by decide, by decide +kernel⟩
set_option maxRecDepth 20000 in
theorem sd_mk_X2_init : sd_mok (yX2_init, cX2_init, 1, none, 2, 0, sd_t_X2_init) := ⟨sd_Gi (List.mem_of_getElem? (i := 291) rfl) rfl, by decide, rfl, by decide +kernel, by decide, by decide +kernel⟩
theorem sd_mc0 : ∀ q ∈ sd_mL0, sd_mok q := List.forall_mem_cons.mpr ⟨sd_mk_X0_init, List.forall_mem_cons.mpr ⟨sd_mk_X0_copyFrom, List.forall_mem_cons.mpr ⟨sd_mk_X0_begin, List.forall_mem_cons.mpr ⟨sd_mk_X0_isOn, List.forall_mem_cons.mpr ⟨sd_mk_X0_bitsWhere, List.forall_mem_cons.mpr ⟨sd_mk_X0_lineBits, List.forall_mem_cons.mpr ⟨sd_mk_X0_lacking, List.forall_mem_cons.mpr ⟨sd_mk_X0_signedOf, List.forall_mem_cons.mpr ⟨sd_mk_X0_takeIn, List.forall_mem_cons.mpr ⟨sd_mk_X0_reorder, List.forall_mem_cons.mpr ⟨sd_mk_X0_rewrite, List.forall_mem_cons.mpr ⟨sd_mk_X0_leave, List.forall_mem_cons.mpr ⟨sd_mk_X0_strike, List.forall_mem_cons.mpr ⟨sd_mk_X0_settle, List.forall_mem_cons.mpr ⟨sd_mk_X0_firstInNeed, List.forall_mem_cons.mpr ⟨sd_mk_X0_holds, List.forall_mem_cons.mpr ⟨sd_mk_X0_sign, List.forall_mem_cons.mpr ⟨sd_mk_X0_partPence, List.forall_mem_cons.mpr ⟨sd_mk_X0_partAmong, List.forall_mem_cons.mpr ⟨sd_mk_X0_lostMost, List.forall_mem_cons.mpr ⟨sd_mk_X1_init, List.forall_mem_cons.mpr ⟨sd_mk_X1_pass, List.forall_mem_cons.mpr ⟨sd_mk_X1_choose, List.forall_mem_cons.mpr ⟨sd_mk_X1_layWords, List.forall_mem_cons.mpr ⟨sd_mk_X2_init, fun _ h => absurd h List.not_mem_nil⟩⟩⟩⟩⟩⟩⟩⟩⟩⟩⟩⟩⟩⟩⟩⟩⟩⟩⟩⟩⟩⟩⟩⟩⟩
