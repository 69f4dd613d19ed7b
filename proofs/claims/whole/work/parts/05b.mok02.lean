set_option maxRecDepth 20000 in
theorem sd_mk_X6_readsClause : sd_mok (yX6_readsClause, cX6_readsClause, 4, (some .boolean), 6, 2, sd_t_X6_readsClause) := ⟨sd_Gi (List.mem_of_getElem? (i := 565) rfl) rfl, by decide, rfl, by decide +kernel, by decide, by decide +kernel⟩
set_option maxRecDepth 20000 in
theorem sd_mk_X6_readsOffer : sd_mok (yX6_readsOffer, cX6_readsOffer, 4, (some .boolean), 6, 1, sd_t_X6_readsOffer) := ⟨sd_Gi (List.mem_of_getElem? (i := 592) rfl) rfl, by decide, rfl, by decide +kernel, by decide, by decide +kernel⟩
set_option maxRecDepth 20000 in
theorem sd_mk_X6_readsNeed : sd_mok (yX6_readsNeed, cX6_readsNeed, 5, (some .boolean), 6, 1, sd_t_X6_readsNeed) := ⟨sd_Gi (List.mem_of_getElem? (i := 600) rfl) rfl, by decide, rfl, by decide +kernel, by decide, by decide +kernel⟩
set_option maxRecDepth 20000 in
theorem sd_mk_X7_init : sd_mok (yX7_init, cX7_init, 1, none, 7, 0, sd_t_X7_init) := ⟨sd_Gi (List.mem_of_getElem? (i := 146) rfl) rfl, by decide, rfl, by decide +kernel, by decide, by decide +kernel⟩
set_option maxRecDepth 20000 in
theorem sd_mk_X7_append : sd_mok (yX7_append, cX7_append, 3, none, 7, 1, sd_t_X7_append) := ⟨sd_Gi (List.mem_of_getElem? (i := 472) rfl) rfl, by decide, rfl, by decide +kernel, by decide, by decide +kernel⟩
set_option maxRecDepth 20000 in
theorem sd_mk_X7_cut : sd_mok (yX7_cut, cX7_cut, 3, none, 7, 0, sd_t_X7_cut) := ⟨sd_Gi (List.mem_of_getElem? (i := 488) rfl) rfl, by decide, rfl, by decide +kernel, by decide, by decide +kernel⟩
set_option maxRecDepth 20000 in
theorem sd_mk_X7_cutOne : sd_mok (yX7_cutOne, cX7_cutOne, 6, (some .int), 7, 1, sd_t_X7_cutOne) := ⟨sd_Gi (List.mem_of_getElem? (i := 496) rfl) rfl, by decide, rfl, by decide +kernel, by decide, by decide +kernel⟩
set_option maxRecDepth 20000 in
theorem sd_mk_X7_addToken : sd_mok (yX7_addToken, cX7_addToken, 4, none, 7, 3, sd_t_X7_addToken) := ⟨sd_Gi (List.mem_of_getElem? (i := 508) rfl) rfl, by decide, rfl, by decide +kernel, by decide, by decide +kernel⟩
set_option maxRecDepth 20000 in
theorem sd_mk_X7_byteAt : sd_mok (yX7_byteAt, cX7_byteAt, 2, (some .int), 7, 1, sd_t_X7_byteAt) := ⟨sd_Gi (List.mem_of_getElem? (i := 492) rfl) rfl, by decide, rfl, by decide +kernel, by decide, by decide +kernel⟩
set_option maxRecDepth 20000 in
theorem sd_mk_X7_runOf : sd_mok (yX7_runOf, cX7_runOf, 6, (some .int), 7, 3, sd_t_X7_runOf) := ⟨sd_Gi (List.mem_of_getElem? (i := 500) rfl) rfl, by decide, rfl, by decide +kernel, by decide, by decide +kernel⟩
set_option maxRecDepth 20000 in
theorem sd_mk_X7_numberAt : sd_mok (yX7_numberAt, cX7_numberAt, 5, (some .int), 7, 2, sd_t_X7_numberAt) := ⟨sd_Gi (List.mem_of_getElem? (i := 504) rfl) rfl, by decide, rfl, by decide +kernel, by decide, by decide +kernel⟩
set_option maxRecDepth 20000 in
theorem sd_mk_X7_wordAt : sd_mok (yX7_wordAt, cX7_wordAt, 8, (some .int), 7, 2, sd_t_X7_wordAt) := ⟨sd_Gi (List.mem_of_getElem? (i := 512) rfl) rfl, by decide, rfl, by decide +kernel, by decide, by decide +kernel⟩
set_option maxRecDepth 20000 in
theorem sd_mk_X7_kind : sd_mok (yX7_kind, cX7_kind, 1, (some .int), 7, 0, sd_t_X7_kind) := ⟨sd_Gi (List.mem_of_getElem? (i := 569) rfl) rfl, by decide, rfl, by decide +kernel, by decide, by decide +kernel⟩
set_option maxRecDepth 20000 in
theorem sd_mk_X7_value : sd_mok (yX7_value, cX7_value, 1, (some .int), 7, 0, sd_t_X7_value) := ⟨sd_Gi (List.mem_of_getElem? (i := 585) rfl) rfl, by decide, rfl, by decide +kernel, by decide, by decide +kernel⟩
set_option maxRecDepth 20000 in
theorem sd_mk_X7_step : sd_mok (yX7_step, cX7_step, 1, none, 7, 0, sd_t_X7_step) := ⟨sd_Gi (List.mem_of_getElem? (i := 577) rfl) rfl, by decide, rfl, by decide +kernel, by decide, by decide +kernel⟩
set_option maxRecDepth 20000 in
theorem sd_mk_X7_number : sd_mok (yX7_number, cX7_number, 4, (some .int), 7, 2, sd_t_X7_number) := ⟨sd_Gi (List.mem_of_getElem? (i := 581) rfl) rfl, by decide, rfl, by decide +kernel, by decide, by decide +kernel⟩
set_option maxRecDepth 20000 in
theorem sd_mk_X7_fails : sd_mok (yX7_fails, cX7_fails, 2, (some .boolean), 7, 1, sd_t_X7_fails) := ⟨sd_Gi (List.mem_of_getElem? (i := 573) rfl) rfl, by decide, rfl, by decide +kernel, by decide, by decide +kernel⟩
set_option maxRecDepth 20000 in
theorem sd_mk_X8_init : sd_mok (yX8_init, cX8_init, 1, none, 8, 0, sd_t_X8_init) := ⟨sd_Gi (List.mem_of_getElem? (i := 187) rfl) rfl, by decide, rfl, by decide +kernel, by decide, by decide +kernel⟩
set_option maxRecDepth 20000 in
theorem sd_mk_X8_copyFrom : sd_mok (yX8_copyFrom, cX8_copyFrom, 2, none, 8, 1, sd_t_X8_copyFrom) := ⟨sd_Gi (List.mem_of_getElem? (i := 608) rfl) rfl, by decide, rfl, by decide +kernel, by decide, by decide +kernel⟩
set_option maxRecDepth 20000 in
theorem sd_mk_X8_addOffer : sd_mok (yX8_addOffer, cX8_addOffer, 3, none, 8, 2, sd_t_X8_addOffer) := ⟨sd_Gi (List.mem_of_getElem? (i := 596) rfl) rfl, by decide, rfl, by decide +kernel, by decide, by decide +kernel⟩
set_option maxRecDepth 20000 in
theorem sd_mk_X8_addNeed : sd_mok (yX8_addNeed, cX8_addNeed, 4, none, 8, 3, sd_t_X8_addNeed) := ⟨sd_Gi (List.mem_of_getElem? (i := 604) rfl) rfl, by decide, rfl, by decide +kernel, by decide, by decide +kernel⟩
set_option maxRecDepth 20000 in
theorem sd_mk_X8_findNeed : sd_mok (yX8_findNeed, cX8_findNeed, 5, (some .int), 8, 2, sd_t_X8_findNeed) := ⟨sd_Gi (List.mem_of_getElem? (i := 684) rfl) rfl, by decide, rfl, by decide +kernel, by decide, by decide +kernel⟩
set_option maxRecDepth 20000 in
theorem sd_mk_X9_init : sd_mok (yX9_init, cX9_init, 2, none, 9, 0, sd_t_X9_init) := ⟨sd_Gi (List.mem_of_getElem? (i := 138) rfl) rfl, by decide, rfl, by decide +kernel, by decide, by decide +kernel⟩
set_option maxRecDepth 20000 in
theorem sd_mk_X9_feed : sd_mok (yX9_feed, cX9_feed, 6, (some .int), 9, 5, sd_t_X9_feed) := ⟨sd_Gi (List.mem_of_getElem? (i := 468) rfl) rfl, by decide, rfl, by decide +kernel, by decide, by decide +kernel⟩
set_option maxRecDepth 20000 in
theorem sd_mk_X9_end : sd_mok (yX9_end, cX9_end, 2, (some .int), 9, 1, sd_t_X9_end) := ⟨sd_Gi (List.mem_of_getElem? (i := 476) rfl) rfl, by decide, rfl, by decide +kernel, by decide, by decide +kernel⟩
theorem sd_mc2 : ∀ q ∈ sd_mL2, sd_mok q := List.forall_mem_cons.mpr ⟨sd_mk_X6_readsClause, List.forall_mem_cons.mpr ⟨sd_mk_X6_readsOffer, List.forall_mem_cons.mpr ⟨sd_mk_X6_readsNeed, List.forall_mem_cons.mpr ⟨sd_mk_X7_init, List.forall_mem_cons.mpr ⟨sd_mk_X7_append, List.forall_mem_cons.mpr ⟨sd_mk_X7_cut, List.forall_mem_cons.mpr ⟨sd_mk_X7_cutOne, List.forall_mem_cons.mpr ⟨sd_mk_X7_addToken, List.forall_mem_cons.mpr ⟨sd_mk_X7_byteAt, List.forall_mem_cons.mpr ⟨sd_mk_X7_runOf, List.forall_mem_cons.mpr ⟨sd_mk_X7_numberAt, List.forall_mem_cons.mpr ⟨sd_mk_X7_wordAt, List.forall_mem_cons.mpr ⟨sd_mk_X7_kind, List.forall_mem_cons.mpr ⟨sd_mk_X7_value, List.forall_mem_cons.mpr ⟨sd_mk_X7_step, List.forall_mem_cons.mpr ⟨sd_mk_X7_number, List.forall_mem_cons.mpr ⟨sd_mk_X7_fails, List.forall_mem_cons.mpr ⟨sd_mk_X8_init, List.forall_mem_cons.mpr ⟨sd_mk_X8_copyFrom, List.forall_mem_cons.mpr ⟨sd_mk_X8_addOffer, List.forall_mem_cons.mpr ⟨sd_mk_X8_addNeed, List.forall_mem_cons.mpr ⟨sd_mk_X8_findNeed, List.forall_mem_cons.mpr ⟨sd_mk_X9_init, List.forall_mem_cons.mpr ⟨sd_mk_X9_feed, List.forall_mem_cons.mpr ⟨sd_mk_X9_end, fun _ h => absurd h List.not_mem_nil⟩⟩⟩⟩⟩⟩⟩⟩⟩⟩⟩⟩⟩⟩⟩⟩⟩⟩⟩⟩⟩⟩⟩⟩⟩
