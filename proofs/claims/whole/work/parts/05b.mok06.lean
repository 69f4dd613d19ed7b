set_option maxRecDepth 20000 in
theorem sd_mk_X10_term : sd_mok (yX10_term, cX10_term, 2, (some .boolean), 10, 0, sd_t_X10_term) := ⟨sd_Gi (List.mem_of_getElem? (i := 1258) rfl) rfl, by decide, rfl, by decide +kernel, by decide, by decide +kernel⟩
set_option maxRecDepth 20000 in
theorem sd_mk_X10_sum : sd_mok (yX10_sum, cX10_sum, 2, (some .boolean), 10, 0, sd_t_X10_sum) := ⟨sd_Gi (List.mem_of_getElem? (i := 1254) rfl) rfl, by decide, rfl, by decide +kernel, by decide, by decide +kernel⟩
set_option maxRecDepth 20000 in
theorem sd_mk_X10_compare : sd_mok (yX10_compare, cX10_compare, 5, (some .boolean), 10, 0, sd_t_X10_compare) := ⟨sd_Gi (List.mem_of_getElem? (i := 1306) rfl) rfl, by decide, rfl, by decide +kernel, by decide, by decide +kernel⟩
set_option maxRecDepth 20000 in
theorem sd_mk_X10_fact : sd_mok (yX10_fact, cX10_fact, 3, (some .boolean), 10, 0, sd_t_X10_fact) := ⟨sd_Gi (List.mem_of_getElem? (i := 1297) rfl) rfl, by decide, rfl, by decide +kernel, by decide, by decide +kernel⟩
set_option maxRecDepth 20000 in
theorem sd_mk_X10_isInside : sd_mok (yX10_isInside, cX10_isInside, 2, (some .boolean), 10, 0, sd_t_X10_isInside) := ⟨sd_Gi (List.mem_of_getElem? (i := 1321) rfl) rfl, by decide, rfl, by decide +kernel, by decide, by decide +kernel⟩
set_option maxRecDepth 20000 in
theorem sd_mk_X10_closes : sd_mok (yX10_closes, cX10_closes, 1, none, 10, 0, sd_t_X10_closes) := ⟨sd_Gi (List.mem_of_getElem? (i := 1310) rfl) rfl, by decide, rfl, by decide +kernel, by decide, by decide +kernel⟩
set_option maxRecDepth 20000 in
theorem sd_mk_X10_tested : sd_mok (yX10_tested, cX10_tested, 3, (some .boolean), 10, 0, sd_t_X10_tested) := ⟨sd_Gi (List.mem_of_getElem? (i := 1293) rfl) rfl, by decide, rfl, by decide +kernel, by decide, by decide +kernel⟩
set_option maxRecDepth 20000 in
theorem sd_mk_X10_isTakeHere : sd_mok (yX10_isTakeHere, cX10_isTakeHere, 2, (some .boolean), 10, 0, sd_t_X10_isTakeHere) := ⟨sd_Gi (List.mem_of_getElem? (i := 1250) rfl) rfl, by decide, rfl, by decide +kernel, by decide, by decide +kernel⟩
set_option maxRecDepth 20000 in
theorem sd_mk_X10_cellHere : sd_mok (yX10_cellHere, cX10_cellHere, 4, (some .boolean), 10, 3, sd_t_X10_cellHere) := ⟨sd_Gi (List.mem_of_getElem? (i := 1227) rfl) rfl, by decide, rfl, by decide +kernel, by decide, by decide +kernel⟩
set_option maxRecDepth 20000 in
theorem sd_mk_X10_isSlipHere : sd_mok (yX10_isSlipHere, cX10_isSlipHere, 2, (some .boolean), 10, 1, sd_t_X10_isSlipHere) := ⟨sd_Gi (List.mem_of_getElem? (i := 1219) rfl) rfl, by decide, rfl, by decide +kernel, by decide, by decide +kernel⟩
set_option maxRecDepth 20000 in
theorem sd_mk_X10_isOfferHere : sd_mok (yX10_isOfferHere, cX10_isOfferHere, 3, (some .boolean), 10, 1, sd_t_X10_isOfferHere) := ⟨sd_Gi (List.mem_of_getElem? (i := 1242) rfl) rfl, by decide, rfl, by decide +kernel, by decide, by decide +kernel⟩
set_option maxRecDepth 20000 in
theorem sd_mk_X10_isNeedsHere : sd_mok (yX10_isNeedsHere, cX10_isNeedsHere, 3, (some .boolean), 10, 1, sd_t_X10_isNeedsHere) := ⟨sd_Gi (List.mem_of_getElem? (i := 1246) rfl) rfl, by decide, rfl, by decide +kernel, by decide, by decide +kernel⟩
set_option maxRecDepth 20000 in
theorem sd_mk_X10_slipLineHere : sd_mok (yX10_slipLineHere, cX10_slipLineHere, 2, (some .boolean), 10, 1, sd_t_X10_slipLineHere) := ⟨sd_Gi (List.mem_of_getElem? (i := 1215) rfl) rfl, by decide, rfl, by decide +kernel, by decide, by decide +kernel⟩
set_option maxRecDepth 20000 in
theorem sd_mk_X10_isSlipWord : sd_mok (yX10_isSlipWord, cX10_isSlipWord, 1, (some .boolean), 10, 0, sd_t_X10_isSlipWord) := ⟨sd_Gi (List.mem_of_getElem? (i := 1195) rfl) rfl, by decide, rfl, by decide +kernel, by decide, by decide +kernel⟩
set_option maxRecDepth 20000 in
theorem sd_mk_X10_clauseHere : sd_mok (yX10_clauseHere, cX10_clauseHere, 3, (some .boolean), 10, 0, sd_t_X10_clauseHere) := ⟨sd_Gi (List.mem_of_getElem? (i := 1187) rfl) rfl, by decide, rfl, by decide +kernel, by decide, by decide +kernel⟩
set_option maxRecDepth 20000 in
theorem sd_mk_X10_readsAll : sd_mok (yX10_readsAll, cX10_readsAll, 2, (some .boolean), 10, 0, sd_t_X10_readsAll) := ⟨sd_Gi (List.mem_of_getElem? (i := 1183) rfl) rfl, by decide, rfl, by decide +kernel, by decide, by decide +kernel⟩
set_option maxRecDepth 20000 in
theorem sd_mk_X10_rule : sd_mok (yX10_rule, cX10_rule, 1, (some .int), 10, 0, sd_t_X10_rule) := ⟨sd_Gi (List.mem_of_getElem? (i := 1179) rfl) rfl, by decide, rfl, by decide +kernel, by decide, by decide +kernel⟩
set_option maxRecDepth 20000 in
theorem sd_mk_X10_slip : sd_mok (yX10_slip, cX10_slip, 2, (some .int), 10, 0, sd_t_X10_slip) := ⟨sd_Gi (List.mem_of_getElem? (i := 1327) rfl) rfl, by decide, rfl, by decide +kernel, by decide, by decide +kernel⟩
set_option maxRecDepth 20000 in
theorem sd_mk_X10_isRule : sd_mok (yX10_isRule, cX10_isRule, 2, (some .boolean), 10, 1, sd_t_X10_isRule) := ⟨sd_Gi (List.mem_of_getElem? (i := 1339) rfl) rfl, by decide, rfl, by decide +kernel, by decide, by decide +kernel⟩
set_option maxRecDepth 20000 in
theorem sd_mk_X10_push : sd_mok (yX10_push, cX10_push, 3, none, 10, 1, sd_t_X10_push) := ⟨sd_Gi (List.mem_of_getElem? (i := 1447) rfl) rfl, by decide, rfl, by decide +kernel, by decide, by decide +kernel⟩
set_option maxRecDepth 20000 in
theorem sd_mk_X10_pop : sd_mok (yX10_pop, cX10_pop, 1, (some .long), 10, 0, sd_t_X10_pop) := ⟨sd_Gi (List.mem_of_getElem? (i := 1451) rfl) rfl, by decide, rfl, by decide +kernel, by decide, by decide +kernel⟩
set_option maxRecDepth 20000 in
theorem sd_mk_X10_one : sd_mok (yX10_one, cX10_one, 5, (some .long), 10, 3, sd_t_X10_one) := ⟨sd_Gi (List.mem_of_getElem? (i := 1454) rfl) rfl, by decide, rfl, by decide +kernel, by decide, by decide +kernel⟩
set_option maxRecDepth 20000 in
theorem sd_mk_X10_reckons : sd_mok (yX10_reckons, cX10_reckons, 11, (some .long), 10, 3, sd_t_X10_reckons) := ⟨sd_Gi (List.mem_of_getElem? (i := 1443) rfl) rfl, by decide, rfl, by decide +kernel, by decide, by decide +kernel⟩
set_option maxRecDepth 20000 in
theorem sd_mk_X10_isSlip : sd_mok (yX10_isSlip, cX10_isSlip, 1, (some .boolean), 10, 0, sd_t_X10_isSlip) := ⟨sd_Gi (List.mem_of_getElem? (i := 1408) rfl) rfl, by decide, rfl, by decide +kernel, by decide, by decide +kernel⟩
set_option maxRecDepth 20000 in
theorem sd_mk_X10_isOffer : sd_mok (yX10_isOffer, cX10_isOffer, 2, (some .boolean), 10, 1, sd_t_X10_isOffer) := ⟨sd_Gi (List.mem_of_getElem? (i := 1347) rfl) rfl, by decide, rfl, by decide +kernel, by decide, by decide +kernel⟩
theorem sd_mc6 : ∀ q ∈ sd_mL6, sd_mok q := List.forall_mem_cons.mpr ⟨sd_mk_X10_term, List.forall_mem_cons.mpr ⟨sd_mk_X10_sum, List.forall_mem_cons.mpr ⟨sd_mk_X10_compare, List.forall_mem_cons.mpr ⟨sd_mk_X10_fact, List.forall_mem_cons.mpr ⟨sd_mk_X10_isInside, List.forall_mem_cons.mpr ⟨sd_mk_X10_closes, List.forall_mem_cons.mpr ⟨sd_mk_X10_tested, List.forall_mem_cons.mpr ⟨sd_mk_X10_isTakeHere, List.forall_mem_cons.mpr ⟨sd_mk_X10_cellHere, List.forall_mem_cons.mpr ⟨sd_mk_X10_isSlipHere, List.forall_mem_cons.mpr ⟨sd_mk_X10_isOfferHere, List.forall_mem_cons.mpr ⟨sd_mk_X10_isNeedsHere, List.forall_mem_cons.mpr ⟨sd_mk_X10_slipLineHere, List.forall_mem_cons.mpr ⟨sd_mk_X10_isSlipWord, List.forall_mem_cons.mpr ⟨sd_mk_X10_clauseHere, List.forall_mem_cons.mpr ⟨sd_mk_X10_readsAll, List.forall_mem_cons.mpr ⟨sd_mk_X10_rule, List.forall_mem_cons.mpr ⟨sd_mk_X10_slip, List.forall_mem_cons.mpr ⟨sd_mk_X10_isRule, List.forall_mem_cons.mpr ⟨sd_mk_X10_push, List.forall_mem_cons.mpr ⟨sd_mk_X10_pop, List.forall_mem_cons.mpr ⟨sd_mk_X10_one, List.forall_mem_cons.mpr ⟨sd_mk_X10_reckons, List.forall_mem_cons.mpr ⟨sd_mk_X10_isSlip, List.forall_mem_cons.mpr ⟨sd_mk_X10_isOffer, fun _ h => absurd h List.not_mem_nil⟩⟩⟩⟩⟩⟩⟩⟩⟩⟩⟩⟩⟩⟩⟩⟩⟩⟩⟩⟩⟩⟩⟩⟩⟩
